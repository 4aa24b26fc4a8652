theorem dX10_isAsMeasured_57 : decode cX10_isAsMeasured 57 = .ok (.istore_n 1, 1) := by decide +kernel
theorem dX10_isAsMeasured_58 : decode cX10_isAsMeasured 58 = .ok (.iinc 2 1, 3) := by decide +kernel
theorem dX10_isAsMeasured_61 : decode cX10_isAsMeasured 61 = .ok (.goto (-44), 3) := by decide +kernel
theorem dX10_isAsMeasured_64 : decode cX10_isAsMeasured 64 = .ok (.iload_n 1, 1) := by decide +kernel
theorem dX10_isAsMeasured_65 : decode cX10_isAsMeasured 65 = .ok (.ireturn, 1) := by decide +kernel
theorem dX10_explains_0 : decode cX10_explains 0 = .ok (.aload_n 0, 1) := by decide +kernel
theorem dX10_explains_1 : decode cX10_explains 1 = .ok (.iload_n 1, 1) := by decide +kernel
theorem dX10_explains_2 : decode cX10_explains 2 = .ok (.iconst 3, 1) := by decide +kernel
theorem dX10_explains_3 : decode cX10_explains 3 = .ok (.invokevirtual 137, 3) := by decide +kernel
theorem dX10_explains_6 : decode cX10_explains 6 = .ok (.istore_n 3, 1) := by decide +kernel
theorem dX10_explains_7 : decode cX10_explains 7 = .ok (.iload_n 2, 1) := by decide +kernel
theorem dX10_explains_8 : decode cX10_explains 8 = .ok (.ifCond .ge 7, 3) := by decide +kernel
theorem dX10_explains_11 : decode cX10_explains 11 = .ok (.iconst 0, 1) := by decide +kernel
theorem dX10_explains_12 : decode cX10_explains 12 = .ok (.goto 9, 3) := by decide +kernel
theorem dX10_explains_15 : decode cX10_explains 15 = .ok (.aload_n 0, 1) := by decide +kernel
theorem dX10_explains_16 : decode cX10_explains 16 = .ok (.iload_n 2, 1) := by decide +kernel
theorem dX10_explains_17 : decode cX10_explains 17 = .ok (.iconst 3, 1) := by decide +kernel
theorem dX10_explains_18 : decode cX10_explains 18 = .ok (.invokevirtual 137, 3) := by decide +kernel
theorem dX10_explains_21 : decode cX10_explains 21 = .ok (.istore 4, 2) := by decide +kernel
theorem dX10_explains_23 : decode cX10_explains 23 = .ok (.iconst 0, 1) := by decide +kernel
theorem dX10_explains_24 : decode cX10_explains 24 = .ok (.istore 5, 2) := by decide +kernel
theorem dX10_explains_26 : decode cX10_explains 26 = .ok (.iconst 1, 1) := by decide +kernel
theorem dX10_explains_27 : decode cX10_explains 27 = .ok (.istore 6, 2) := by decide +kernel
theorem dX10_explains_29 : decode cX10_explains 29 = .ok (.iload 6, 2) := by decide +kernel
theorem dX10_explains_31 : decode cX10_explains 31 = .ok (.bipush 10, 2) := by decide +kernel
theorem dX10_explains_33 : decode cX10_explains 33 = .ok (.if_icmp .ge 79, 3) := by decide +kernel
theorem dX10_explains_36 : decode cX10_explains 36 = .ok (.iload 5, 2) := by decide +kernel
theorem dX10_explains_38 : decode cX10_explains 38 = .ok (.ifCond .ne 74, 3) := by decide +kernel
theorem dX10_explains_41 : decode cX10_explains 41 = .ok (.aload_n 0, 1) := by decide +kernel
theorem dX10_explains_42 : decode cX10_explains 42 = .ok (.getfield 17, 3) := by decide +kernel
theorem dX10_explains_45 : decode cX10_explains 45 = .ok (.bipush 10, 2) := by decide +kernel
theorem dX10_explains_47 : decode cX10_explains 47 = .ok (.iload_n 1, 1) := by decide +kernel
theorem dX10_explains_48 : decode cX10_explains 48 = .ok (.imul, 1) := by decide +kernel
theorem dX10_explains_49 : decode cX10_explains 49 = .ok (.iconst 3, 1) := by decide +kernel
theorem dX10_explains_50 : decode cX10_explains 50 = .ok (.iadd, 1) := by decide +kernel
theorem dX10_explains_51 : decode cX10_explains 51 = .ok (.iload 6, 2) := by decide +kernel
theorem dX10_explains_53 : decode cX10_explains 53 = .ok (.iastore, 1) := by decide +kernel
theorem dX10_explains_54 : decode cX10_explains 54 = .ok (.iconst 1, 1) := by decide +kernel
theorem dX10_explains_55 : decode cX10_explains 55 = .ok (.istore 7, 2) := by decide +kernel
theorem dX10_explains_57 : decode cX10_explains 57 = .ok (.iload 7, 2) := by decide +kernel
theorem dX10_explains_59 : decode cX10_explains 59 = .ok (.iload_n 2, 1) := by decide +kernel
theorem dX10_explains_60 : decode cX10_explains 60 = .ok (.ifCond .ge 7, 3) := by decide +kernel
theorem dX10_explains_63 : decode cX10_explains 63 = .ok (.iconst 2, 1) := by decide +kernel
theorem dX10_explains_64 : decode cX10_explains 64 = .ok (.goto 5, 3) := by decide +kernel
theorem dX10_explains_67 : decode cX10_explains 67 = .ok (.bipush 10, 2) := by decide +kernel
theorem dX10_explains_69 : decode cX10_explains 69 = .ok (.if_icmp .ge 37, 3) := by decide +kernel
theorem dX10_explains_72 : decode cX10_explains 72 = .ok (.iload 5, 2) := by decide +kernel
theorem dX10_explains_74 : decode cX10_explains 74 = .ok (.ifCond .ne 32, 3) := by decide +kernel
theorem dX10_explains_77 : decode cX10_explains 77 = .ok (.iload_n 2, 1) := by decide +kernel
theorem dX10_explains_78 : decode cX10_explains 78 = .ok (.ifCond .lt 16, 3) := by decide +kernel
theorem dX10_explains_81 : decode cX10_explains 81 = .ok (.aload_n 0, 1) := by decide +kernel
theorem dX10_explains_82 : decode cX10_explains 82 = .ok (.getfield 17, 3) := by decide +kernel
theorem dX10_explains_85 : decode cX10_explains 85 = .ok (.bipush 10, 2) := by decide +kernel
theorem dX10_explains_87 : decode cX10_explains 87 = .ok (.iload_n 2, 1) := by decide +kernel
theorem dX10_explains_88 : decode cX10_explains 88 = .ok (.imul, 1) := by decide +kernel
theorem dX10_explains_89 : decode cX10_explains 89 = .ok (.iconst 3, 1) := by decide +kernel
theorem dX10_explains_90 : decode cX10_explains 90 = .ok (.iadd, 1) := by decide +kernel
theorem dX10_explains_91 : decode cX10_explains 91 = .ok (.iload 7, 2) := by decide +kernel
theorem dX10_explains_93 : decode cX10_explains 93 = .ok (.iastore, 1) := by decide +kernel
theorem dX10_explains_94 : decode cX10_explains 94 = .ok (.aload_n 0, 1) := by decide +kernel
theorem dX10_explains_95 : decode cX10_explains 95 = .ok (.invokevirtual 352, 3) := by decide +kernel
theorem dX10_explains_98 : decode cX10_explains 98 = .ok (.istore 5, 2) := by decide +kernel
theorem dX10_explains_100 : decode cX10_explains 100 = .ok (.iinc 7 1, 3) := by decide +kernel
theorem dX10_explains_103 : decode cX10_explains 103 = .ok (.goto (-46), 3) := by decide +kernel
theorem dX10_explains_106 : decode cX10_explains 106 = .ok (.iinc 6 1, 3) := by decide +kernel
theorem dX10_explains_109 : decode cX10_explains 109 = .ok (.goto (-80), 3) := by decide +kernel
theorem dX10_explains_112 : decode cX10_explains 112 = .ok (.aload_n 0, 1) := by decide +kernel
theorem dX10_explains_113 : decode cX10_explains 113 = .ok (.getfield 17, 3) := by decide +kernel
theorem dX10_explains_116 : decode cX10_explains 116 = .ok (.bipush 10, 2) := by decide +kernel
theorem dX10_explains_118 : decode cX10_explains 118 = .ok (.iload_n 1, 1) := by decide +kernel
theorem dX10_explains_119 : decode cX10_explains 119 = .ok (.imul, 1) := by decide +kernel
theorem dX10_explains_120 : decode cX10_explains 120 = .ok (.iconst 3, 1) := by decide +kernel
theorem dX10_explains_121 : decode cX10_explains 121 = .ok (.iadd, 1) := by decide +kernel
theorem dX10_explains_122 : decode cX10_explains 122 = .ok (.iload_n 3, 1) := by decide +kernel
theorem dX10_explains_123 : decode cX10_explains 123 = .ok (.iastore, 1) := by decide +kernel
theorem dX10_explains_124 : decode cX10_explains 124 = .ok (.iload_n 2, 1) := by decide +kernel
theorem dX10_explains_125 : decode cX10_explains 125 = .ok (.ifCond .lt 16, 3) := by decide +kernel
theorem dX10_explains_128 : decode cX10_explains 128 = .ok (.aload_n 0, 1) := by decide +kernel
theorem dX10_explains_129 : decode cX10_explains 129 = .ok (.getfield 17, 3) := by decide +kernel
theorem dX10_explains_132 : decode cX10_explains 132 = .ok (.bipush 10, 2) := by decide +kernel
theorem dX10_explains_134 : decode cX10_explains 134 = .ok (.iload_n 2, 1) := by decide +kernel
theorem dX10_explains_135 : decode cX10_explains 135 = .ok (.imul, 1) := by decide +kernel
theorem dX10_explains_136 : decode cX10_explains 136 = .ok (.iconst 3, 1) := by decide +kernel
theorem dX10_explains_137 : decode cX10_explains 137 = .ok (.iadd, 1) := by decide +kernel
theorem dX10_explains_138 : decode cX10_explains 138 = .ok (.iload 4, 2) := by decide +kernel
theorem dX10_explains_140 : decode cX10_explains 140 = .ok (.iastore, 1) := by decide +kernel
theorem dX10_explains_141 : decode cX10_explains 141 = .ok (.iload 5, 2) := by decide +kernel
theorem dX10_explains_143 : decode cX10_explains 143 = .ok (.ireturn, 1) := by decide +kernel
theorem dX10_which_0 : decode cX10_which 0 = .ok (.aload_n 0, 1) := by decide +kernel
theorem dX10_which_1 : decode cX10_which 1 = .ok (.invokevirtual 352, 3) := by decide +kernel
theorem dX10_which_4 : decode cX10_which 4 = .ok (.ifCond .eq 5, 3) := by decide +kernel
theorem dX10_which_7 : decode cX10_which 7 = .ok (.iconst 0, 1) := by decide +kernel
theorem dX10_which_8 : decode cX10_which 8 = .ok (.ireturn, 1) := by decide +kernel
theorem dX10_which_9 : decode cX10_which 9 = .ok (.iconst 0, 1) := by decide +kernel
theorem dX10_which_10 : decode cX10_which 10 = .ok (.istore_n 1, 1) := by decide +kernel
theorem dX10_which_11 : decode cX10_which 11 = .ok (.iload_n 1, 1) := by decide +kernel
theorem dX10_which_12 : decode cX10_which 12 = .ok (.aload_n 0, 1) := by decide +kernel
theorem dX10_which_13 : decode cX10_which 13 = .ok (.getfield 111, 3) := by decide +kernel
theorem dX10_which_16 : decode cX10_which 16 = .ok (.if_icmp .ge 22, 3) := by decide +kernel
theorem dX10_which_19 : decode cX10_which 19 = .ok (.aload_n 0, 1) := by decide +kernel
theorem dX10_which_20 : decode cX10_which 20 = .ok (.iload_n 1, 1) := by decide +kernel
theorem dX10_which_21 : decode cX10_which 21 = .ok (.iconst (-1), 1) := by decide +kernel
theorem dX10_which_22 : decode cX10_which 22 = .ok (.invokevirtual 355, 3) := by decide +kernel
theorem dX10_which_25 : decode cX10_which 25 = .ok (.ifCond .eq 7, 3) := by decide +kernel
theorem dX10_which_28 : decode cX10_which 28 = .ok (.iconst 1, 1) := by decide +kernel
theorem dX10_which_29 : decode cX10_which 29 = .ok (.iload_n 1, 1) := by decide +kernel
theorem dX10_which_30 : decode cX10_which 30 = .ok (.ishl, 1) := by decide +kernel
theorem dX10_which_31 : decode cX10_which 31 = .ok (.ireturn, 1) := by decide +kernel
theorem dX10_which_32 : decode cX10_which 32 = .ok (.iinc 1 1, 3) := by decide +kernel
theorem dX10_which_35 : decode cX10_which 35 = .ok (.goto (-24), 3) := by decide +kernel
theorem dX10_which_38 : decode cX10_which 38 = .ok (.iconst 0, 1) := by decide +kernel
theorem dX10_which_39 : decode cX10_which 39 = .ok (.istore_n 1, 1) := by decide +kernel
theorem dX10_which_40 : decode cX10_which 40 = .ok (.iload_n 1, 1) := by decide +kernel
theorem dX10_which_41 : decode cX10_which 41 = .ok (.aload_n 0, 1) := by decide +kernel
theorem dX10_which_42 : decode cX10_which 42 = .ok (.getfield 111, 3) := by decide +kernel
theorem dX10_which_45 : decode cX10_which 45 = .ok (.if_icmp .ge 39, 3) := by decide +kernel
theorem dX10_which_48 : decode cX10_which 48 = .ok (.iconst 0, 1) := by decide +kernel
theorem dX10_which_49 : decode cX10_which 49 = .ok (.istore_n 2, 1) := by decide +kernel
theorem dX10_which_50 : decode cX10_which 50 = .ok (.iload_n 2, 1) := by decide +kernel
theorem dX10_which_51 : decode cX10_which 51 = .ok (.iload_n 1, 1) := by decide +kernel
theorem dX10_which_52 : decode cX10_which 52 = .ok (.if_icmp .ge 26, 3) := by decide +kernel
theorem dX10_which_55 : decode cX10_which 55 = .ok (.aload_n 0, 1) := by decide +kernel
theorem dX10_which_56 : decode cX10_which 56 = .ok (.iload_n 2, 1) := by decide +kernel
theorem dX10_which_57 : decode cX10_which 57 = .ok (.iload_n 1, 1) := by decide +kernel
theorem dX10_which_58 : decode cX10_which 58 = .ok (.invokevirtual 355, 3) := by decide +kernel
theorem dX10_which_61 : decode cX10_which 61 = .ok (.ifCond .eq 11, 3) := by decide +kernel
theorem dX10_which_64 : decode cX10_which 64 = .ok (.iconst 1, 1) := by decide +kernel
theorem dX10_which_65 : decode cX10_which 65 = .ok (.iload_n 2, 1) := by decide +kernel
theorem dX10_which_66 : decode cX10_which 66 = .ok (.ishl, 1) := by decide +kernel
theorem dX10_which_67 : decode cX10_which 67 = .ok (.iconst 1, 1) := by decide +kernel
theorem dX10_which_68 : decode cX10_which 68 = .ok (.iload_n 1, 1) := by decide +kernel
theorem dX10_which_69 : decode cX10_which 69 = .ok (.ishl, 1) := by decide +kernel
theorem dX10_which_70 : decode cX10_which 70 = .ok (.ior, 1) := by decide +kernel
theorem dX10_which_71 : decode cX10_which 71 = .ok (.ireturn, 1) := by decide +kernel
theorem dX10_which_72 : decode cX10_which 72 = .ok (.iinc 2 1, 3) := by decide +kernel
theorem dX10_which_75 : decode cX10_which 75 = .ok (.goto (-25), 3) := by decide +kernel
theorem dX10_which_78 : decode cX10_which 78 = .ok (.iinc 1 1, 3) := by decide +kernel
theorem dX10_which_81 : decode cX10_which 81 = .ok (.goto (-41), 3) := by decide +kernel
theorem dX10_which_84 : decode cX10_which 84 = .ok (.bipush (-3), 2) := by decide +kernel
theorem dX10_which_86 : decode cX10_which 86 = .ok (.ireturn, 1) := by decide +kernel
theorem dX10_isShelf_0 : decode cX10_isShelf 0 = .ok (.iload_n 0, 1) := by decide +kernel
theorem dX10_isShelf_1 : decode cX10_isShelf 1 = .ok (.iconst 0, 1) := by decide +kernel
theorem dX10_isShelf_2 : decode cX10_isShelf 2 = .ok (.iconst 3, 1) := by decide +kernel
theorem dX10_isShelf_3 : decode cX10_isShelf 3 = .ok (.invokestatic 114, 3) := by decide +kernel
theorem dX10_isShelf_6 : decode cX10_isShelf 6 = .ok (.ireturn, 1) := by decide +kernel
theorem dX10_sheet_0 : decode cX10_sheet 0 = .ok (.iload_n 1, 1) := by decide +kernel
theorem dX10_sheet_1 : decode cX10_sheet 1 = .ok (.invokestatic 118, 3) := by decide +kernel
theorem dX10_sheet_4 : decode cX10_sheet 4 = .ok (.ifCond .eq 22, 3) := by decide +kernel
theorem dX10_sheet_7 : decode cX10_sheet 7 = .ok (.iload_n 2, 1) := by decide +kernel
theorem dX10_sheet_8 : decode cX10_sheet 8 = .ok (.iconst (-1), 1) := by decide +kernel
theorem dX10_sheet_9 : decode cX10_sheet 9 = .ok (.iconst 3, 1) := by decide +kernel
theorem dX10_sheet_10 : decode cX10_sheet 10 = .ok (.invokestatic 114, 3) := by decide +kernel
theorem dX10_sheet_13 : decode cX10_sheet 13 = .ok (.ifCond .eq 13, 3) := by decide +kernel
theorem dX10_sheet_16 : decode cX10_sheet 16 = .ok (.iload_n 2, 1) := by decide +kernel
theorem dX10_sheet_17 : decode cX10_sheet 17 = .ok (.ifCond .lt 11, 3) := by decide +kernel
theorem dX10_sheet_20 : decode cX10_sheet 20 = .ok (.iload_n 3, 1) := by decide +kernel
theorem dX10_sheet_21 : decode cX10_sheet 21 = .ok (.bipush 40, 2) := by decide +kernel
theorem dX10_sheet_23 : decode cX10_sheet 23 = .ok (.if_icmp .le 5, 3) := by decide +kernel
theorem dX10_sheet_26 : decode cX10_sheet 26 = .ok (.iconst (-1), 1) := by decide +kernel
theorem dX10_sheet_27 : decode cX10_sheet 27 = .ok (.ireturn, 1) := by decide +kernel
theorem dX10_sheet_28 : decode cX10_sheet 28 = .ok (.iload_n 2, 1) := by decide +kernel
theorem dX10_sheet_29 : decode cX10_sheet 29 = .ok (.ifCond .lt 10, 3) := by decide +kernel
theorem dX10_sheet_32 : decode cX10_sheet 32 = .ok (.iload_n 3, 1) := by decide +kernel
theorem dX10_sheet_33 : decode cX10_sheet 33 = .ok (.ifCond .ge 6, 3) := by decide +kernel
theorem dX10_sheet_36 : decode cX10_sheet 36 = .ok (.bipush (-14), 2) := by decide +kernel
theorem dX10_sheet_38 : decode cX10_sheet 38 = .ok (.ireturn, 1) := by decide +kernel
theorem dX10_sheet_39 : decode cX10_sheet 39 = .ok (.aload_n 0, 1) := by decide +kernel
theorem dX10_sheet_40 : decode cX10_sheet 40 = .ok (.getfield 83, 3) := by decide +kernel
theorem dX10_sheet_43 : decode cX10_sheet 43 = .ok (.iload_n 1, 1) := by decide +kernel
theorem dX10_sheet_44 : decode cX10_sheet 44 = .ok (.iload_n 2, 1) := by decide +kernel
theorem dX10_sheet_45 : decode cX10_sheet 45 = .ok (.iastore, 1) := by decide +kernel
theorem dX10_sheet_46 : decode cX10_sheet 46 = .ok (.aload_n 0, 1) := by decide +kernel
theorem dX10_sheet_47 : decode cX10_sheet 47 = .ok (.getfield 86, 3) := by decide +kernel
theorem dX10_sheet_50 : decode cX10_sheet 50 = .ok (.iload_n 1, 1) := by decide +kernel
theorem dX10_sheet_51 : decode cX10_sheet 51 = .ok (.iload_n 2, 1) := by decide +kernel
theorem dX10_sheet_52 : decode cX10_sheet 52 = .ok (.ifCond .ge 7, 3) := by decide +kernel
theorem dX10_sheet_55 : decode cX10_sheet 55 = .ok (.iconst 0, 1) := by decide +kernel
theorem dX10_sheet_56 : decode cX10_sheet 56 = .ok (.goto 4, 3) := by decide +kernel
theorem dX10_sheet_59 : decode cX10_sheet 59 = .ok (.iload_n 3, 1) := by decide +kernel
theorem dX10_sheet_60 : decode cX10_sheet 60 = .ok (.iastore, 1) := by decide +kernel
theorem dX10_sheet_61 : decode cX10_sheet 61 = .ok (.iconst 0, 1) := by decide +kernel
theorem dX10_sheet_62 : decode cX10_sheet 62 = .ok (.istore 4, 2) := by decide +kernel
theorem dX10_sheet_64 : decode cX10_sheet 64 = .ok (.iload 4, 2) := by decide +kernel
theorem dX10_sheet_66 : decode cX10_sheet 66 = .ok (.bipush 40, 2) := by decide +kernel
theorem dX10_sheet_68 : decode cX10_sheet 68 = .ok (.if_icmp .ge 22, 3) := by decide +kernel
theorem dX10_sheet_71 : decode cX10_sheet 71 = .ok (.aload_n 0, 1) := by decide +kernel
theorem dX10_sheet_72 : decode cX10_sheet 72 = .ok (.getfield 89, 3) := by decide +kernel
theorem dX10_sheet_75 : decode cX10_sheet 75 = .ok (.bipush 40, 2) := by decide +kernel
theorem dX10_sheet_77 : decode cX10_sheet 77 = .ok (.iload_n 1, 1) := by decide +kernel
theorem dX10_sheet_78 : decode cX10_sheet 78 = .ok (.imul, 1) := by decide +kernel
theorem dX10_sheet_79 : decode cX10_sheet 79 = .ok (.iload 4, 2) := by decide +kernel
theorem dX10_sheet_81 : decode cX10_sheet 81 = .ok (.iadd, 1) := by decide +kernel
theorem dX10_sheet_82 : decode cX10_sheet 82 = .ok (.lconst 0, 1) := by decide +kernel
theorem dX10_sheet_83 : decode cX10_sheet 83 = .ok (.lastore, 1) := by decide +kernel
theorem dX10_sheet_84 : decode cX10_sheet 84 = .ok (.iinc 4 1, 3) := by decide +kernel
theorem dX10_sheet_87 : decode cX10_sheet 87 = .ok (.goto (-23), 3) := by decide +kernel
theorem dX10_sheet_90 : decode cX10_sheet 90 = .ok (.iconst 1, 1) := by decide +kernel
theorem dX10_sheet_91 : decode cX10_sheet 91 = .ok (.ireturn, 1) := by decide +kernel
theorem dX10_put_0 : decode cX10_put 0 = .ok (.iload_n 1, 1) := by decide +kernel
theorem dX10_put_1 : decode cX10_put 1 = .ok (.invokestatic 118, 3) := by decide +kernel
theorem dX10_put_4 : decode cX10_put 4 = .ok (.ifCond .ne 5, 3) := by decide +kernel
theorem dX10_put_7 : decode cX10_put 7 = .ok (.iconst (-1), 1) := by decide +kernel
theorem dX10_put_8 : decode cX10_put 8 = .ok (.ireturn, 1) := by decide +kernel
theorem dX10_put_9 : decode cX10_put 9 = .ok (.aload_n 0, 1) := by decide +kernel
theorem dX10_put_10 : decode cX10_put 10 = .ok (.getfield 83, 3) := by decide +kernel
theorem dX10_put_13 : decode cX10_put 13 = .ok (.iload_n 1, 1) := by decide +kernel
theorem dX10_put_14 : decode cX10_put 14 = .ok (.iaload, 1) := by decide +kernel
theorem dX10_put_15 : decode cX10_put 15 = .ok (.ifCond .ge 6, 3) := by decide +kernel
theorem dX10_put_18 : decode cX10_put 18 = .ok (.bipush (-11), 2) := by decide +kernel
theorem dX10_put_20 : decode cX10_put 20 = .ok (.ireturn, 1) := by decide +kernel
theorem dX10_put_21 : decode cX10_put 21 = .ok (.iload_n 2, 1) := by decide +kernel
theorem dX10_put_22 : decode cX10_put 22 = .ok (.iconst 0, 1) := by decide +kernel
theorem dX10_put_23 : decode cX10_put 23 = .ok (.aload_n 0, 1) := by decide +kernel
theorem dX10_put_24 : decode cX10_put 24 = .ok (.getfield 86, 3) := by decide +kernel
theorem dX10_put_27 : decode cX10_put 27 = .ok (.iload_n 1, 1) := by decide +kernel
theorem dX10_put_28 : decode cX10_put 28 = .ok (.iaload, 1) := by decide +kernel
theorem dX10_put_29 : decode cX10_put 29 = .ok (.iconst 1, 1) := by decide +kernel
theorem dX10_put_30 : decode cX10_put 30 = .ok (.isub, 1) := by decide +kernel
theorem dX10_put_31 : decode cX10_put 31 = .ok (.invokestatic 114, 3) := by decide +kernel
theorem dX10_put_34 : decode cX10_put 34 = .ok (.ifCond .ne 6, 3) := by decide +kernel
theorem dX10_put_37 : decode cX10_put 37 = .ok (.bipush (-12), 2) := by decide +kernel
theorem dX10_put_39 : decode cX10_put 39 = .ok (.ireturn, 1) := by decide +kernel
theorem dX10_put_40 : decode cX10_put 40 = .ok (.aload_n 0, 1) := by decide +kernel
theorem dX10_put_41 : decode cX10_put 41 = .ok (.getfield 89, 3) := by decide +kernel
theorem dX10_put_44 : decode cX10_put 44 = .ok (.bipush 40, 2) := by decide +kernel
theorem dX10_put_46 : decode cX10_put 46 = .ok (.iload_n 1, 1) := by decide +kernel
theorem dX10_put_47 : decode cX10_put 47 = .ok (.imul, 1) := by decide +kernel
theorem dX10_put_48 : decode cX10_put 48 = .ok (.iload_n 2, 1) := by decide +kernel
theorem dX10_put_49 : decode cX10_put 49 = .ok (.iadd, 1) := by decide +kernel
theorem dX10_put_50 : decode cX10_put 50 = .ok (.aload_n 0, 1) := by decide +kernel
theorem dX10_put_51 : decode cX10_put 51 = .ok (.getfield 83, 3) := by decide +kernel
theorem dX10_put_54 : decode cX10_put 54 = .ok (.iload_n 1, 1) := by decide +kernel
theorem dX10_put_55 : decode cX10_put 55 = .ok (.iaload, 1) := by decide +kernel
theorem dX10_put_56 : decode cX10_put 56 = .ok (.ifCond .ne 9, 3) := by decide +kernel
theorem dX10_put_59 : decode cX10_put 59 = .ok (.iload_n 3, 1) := by decide +kernel
theorem dX10_put_60 : decode cX10_put 60 = .ok (.i2b, 1) := by decide +kernel
theorem dX10_put_61 : decode cX10_put 61 = .ok (.i2l, 1) := by decide +kernel
theorem dX10_put_62 : decode cX10_put 62 = .ok (.goto 21, 3) := by decide +kernel
theorem dX10_put_65 : decode cX10_put 65 = .ok (.aload_n 0, 1) := by decide +kernel
theorem dX10_put_66 : decode cX10_put 66 = .ok (.getfield 83, 3) := by decide +kernel
theorem dX10_put_69 : decode cX10_put 69 = .ok (.iload_n 1, 1) := by decide +kernel
theorem dX10_put_70 : decode cX10_put 70 = .ok (.iaload, 1) := by decide +kernel
theorem dX10_put_71 : decode cX10_put 71 = .ok (.iconst 1, 1) := by decide +kernel
theorem dX10_put_72 : decode cX10_put 72 = .ok (.if_icmp .ne 9, 3) := by decide +kernel
theorem dX10_put_75 : decode cX10_put 75 = .ok (.iload_n 3, 1) := by decide +kernel
theorem dX10_put_76 : decode cX10_put 76 = .ok (.i2s, 1) := by decide +kernel
theorem dX10_put_77 : decode cX10_put 77 = .ok (.i2l, 1) := by decide +kernel
theorem dX10_put_78 : decode cX10_put 78 = .ok (.goto 5, 3) := by decide +kernel
theorem dX10_put_81 : decode cX10_put 81 = .ok (.iload_n 3, 1) := by decide +kernel
theorem dX10_put_82 : decode cX10_put 82 = .ok (.i2l, 1) := by decide +kernel
theorem dX10_put_83 : decode cX10_put 83 = .ok (.lastore, 1) := by decide +kernel
theorem dX10_put_84 : decode cX10_put 84 = .ok (.iconst 1, 1) := by decide +kernel
theorem dX10_put_85 : decode cX10_put 85 = .ok (.ireturn, 1) := by decide +kernel
theorem dX10_lacksSort_0 : decode cX10_lacksSort 0 = .ok (.aload_n 0, 1) := by decide +kernel
theorem dX10_lacksSort_1 : decode cX10_lacksSort 1 = .ok (.getfield 83, 3) := by decide +kernel
theorem dX10_lacksSort_4 : decode cX10_lacksSort 4 = .ok (.iload_n 1, 1) := by decide +kernel
theorem dX10_lacksSort_5 : decode cX10_lacksSort 5 = .ok (.iaload, 1) := by decide +kernel
theorem dX10_lacksSort_6 : decode cX10_lacksSort 6 = .ok (.ifCond .ge 8, 3) := by decide +kernel
theorem dX10_lacksSort_9 : decode cX10_lacksSort 9 = .ok (.bipush (-11), 2) := by decide +kernel
theorem dX10_lacksSort_11 : decode cX10_lacksSort 11 = .ok (.goto 19, 3) := by decide +kernel
theorem dX10_lacksSort_14 : decode cX10_lacksSort 14 = .ok (.aload_n 0, 1) := by decide +kernel
theorem dX10_lacksSort_15 : decode cX10_lacksSort 15 = .ok (.getfield 83, 3) := by decide +kernel
theorem dX10_lacksSort_18 : decode cX10_lacksSort 18 = .ok (.iload_n 1, 1) := by decide +kernel
theorem dX10_lacksSort_19 : decode cX10_lacksSort 19 = .ok (.iaload, 1) := by decide +kernel
theorem dX10_lacksSort_20 : decode cX10_lacksSort 20 = .ok (.iload_n 2, 1) := by decide +kernel
theorem dX10_lacksSort_21 : decode cX10_lacksSort 21 = .ok (.if_icmp .eq 8, 3) := by decide +kernel
theorem dX10_lacksSort_24 : decode cX10_lacksSort 24 = .ok (.bipush (-13), 2) := by decide +kernel
theorem dX10_lacksSort_26 : decode cX10_lacksSort 26 = .ok (.goto 4, 3) := by decide +kernel
theorem dX10_lacksSort_29 : decode cX10_lacksSort 29 = .ok (.iconst 0, 1) := by decide +kernel
theorem dX10_lacksSort_30 : decode cX10_lacksSort 30 = .ok (.ireturn, 1) := by decide +kernel
theorem dX10_item_0 : decode cX10_item 0 = .ok (.iload_n 1, 1) := by decide +kernel
theorem dX10_item_1 : decode cX10_item 1 = .ok (.invokestatic 118, 3) := by decide +kernel
theorem dX10_item_4 : decode cX10_item 4 = .ok (.ifCond .eq 12, 3) := by decide +kernel
theorem dX10_item_7 : decode cX10_item 7 = .ok (.iload_n 2, 1) := by decide +kernel
theorem dX10_item_8 : decode cX10_item 8 = .ok (.iconst 0, 1) := by decide +kernel
theorem dX10_item_9 : decode cX10_item 9 = .ok (.iconst 3, 1) := by decide +kernel
theorem dX10_item_10 : decode cX10_item 10 = .ok (.invokestatic 114, 3) := by decide +kernel
theorem dX10_item_13 : decode cX10_item 13 = .ok (.ifCond .ne 5, 3) := by decide +kernel
theorem dX10_item_16 : decode cX10_item 16 = .ok (.iconst (-1), 1) := by decide +kernel
theorem dX10_item_17 : decode cX10_item 17 = .ok (.ireturn, 1) := by decide +kernel
theorem dX10_item_18 : decode cX10_item 18 = .ok (.aload_n 0, 1) := by decide +kernel
theorem dX10_item_19 : decode cX10_item 19 = .ok (.iload_n 1, 1) := by decide +kernel
theorem dX10_item_20 : decode cX10_item 20 = .ok (.iload_n 2, 1) := by decide +kernel
theorem dX10_item_21 : decode cX10_item 21 = .ok (.invokevirtual 122, 3) := by decide +kernel
theorem dX10_item_24 : decode cX10_item 24 = .ok (.istore 4, 2) := by decide +kernel
theorem dX10_item_26 : decode cX10_item 26 = .ok (.iload 4, 2) := by decide +kernel
theorem dX10_item_28 : decode cX10_item 28 = .ok (.ifCond .eq 6, 3) := by decide +kernel
theorem dX10_item_31 : decode cX10_item 31 = .ok (.iload 4, 2) := by decide +kernel
theorem dX10_item_33 : decode cX10_item 33 = .ok (.ireturn, 1) := by decide +kernel
theorem dX10_item_34 : decode cX10_item 34 = .ok (.iload_n 3, 1) := by decide +kernel
theorem dX10_item_35 : decode cX10_item 35 = .ok (.iconst 0, 1) := by decide +kernel
theorem dX10_item_36 : decode cX10_item 36 = .ok (.aload_n 0, 1) := by decide +kernel
theorem dX10_item_37 : decode cX10_item 37 = .ok (.getfield 86, 3) := by decide +kernel
theorem dX10_item_40 : decode cX10_item 40 = .ok (.iload_n 1, 1) := by decide +kernel
theorem dX10_item_41 : decode cX10_item 41 = .ok (.iaload, 1) := by decide +kernel
theorem dX10_item_42 : decode cX10_item 42 = .ok (.iconst 1, 1) := by decide +kernel
theorem dX10_item_43 : decode cX10_item 43 = .ok (.isub, 1) := by decide +kernel
theorem dX10_item_44 : decode cX10_item 44 = .ok (.invokestatic 114, 3) := by decide +kernel
theorem dX10_item_47 : decode cX10_item 47 = .ok (.ifCond .eq 18, 3) := by decide +kernel
theorem dX10_item_50 : decode cX10_item 50 = .ok (.aload_n 0, 1) := by decide +kernel
theorem dX10_item_51 : decode cX10_item 51 = .ok (.getfield 89, 3) := by decide +kernel
theorem dX10_item_54 : decode cX10_item 54 = .ok (.bipush 40, 2) := by decide +kernel
theorem dX10_item_56 : decode cX10_item 56 = .ok (.iload_n 1, 1) := by decide +kernel
theorem dX10_item_57 : decode cX10_item 57 = .ok (.imul, 1) := by decide +kernel
theorem dX10_item_58 : decode cX10_item 58 = .ok (.iload_n 3, 1) := by decide +kernel
theorem dX10_item_59 : decode cX10_item 59 = .ok (.iadd, 1) := by decide +kernel
theorem dX10_item_60 : decode cX10_item 60 = .ok (.laload, 1) := by decide +kernel
theorem dX10_item_61 : decode cX10_item 61 = .ok (.l2i, 1) := by decide +kernel
theorem dX10_item_62 : decode cX10_item 62 = .ok (.goto 5, 3) := by decide +kernel
theorem dX10_item_65 : decode cX10_item 65 = .ok (.bipush (-12), 2) := by decide +kernel
theorem dX10_item_67 : decode cX10_item 67 = .ok (.ireturn, 1) := by decide +kernel
theorem dX10_sizes_0 : decode cX10_sizes 0 = .ok (.aload_n 0, 1) := by decide +kernel
theorem dX10_sizes_1 : decode cX10_sizes 1 = .ok (.iload_n 1, 1) := by decide +kernel
theorem dX10_sizes_2 : decode cX10_sizes 2 = .ok (.invokevirtual 134, 3) := by decide +kernel
theorem dX10_sizes_5 : decode cX10_sizes 5 = .ok (.ifCond .eq 21, 3) := by decide +kernel
theorem dX10_sizes_8 : decode cX10_sizes 8 = .ok (.iload_n 2, 1) := by decide +kernel
theorem dX10_sizes_9 : decode cX10_sizes 9 = .ok (.invokestatic 118, 3) := by decide +kernel
theorem dX10_sizes_12 : decode cX10_sizes 12 = .ok (.ifCond .eq 14, 3) := by decide +kernel
theorem dX10_sizes_15 : decode cX10_sizes 15 = .ok (.iload 4, 2) := by decide +kernel
theorem dX10_sizes_17 : decode cX10_sizes 17 = .ok (.iconst 0, 1) := by decide +kernel
theorem dX10_sizes_18 : decode cX10_sizes 18 = .ok (.bipush 10, 2) := by decide +kernel
theorem dX10_sizes_20 : decode cX10_sizes 20 = .ok (.invokestatic 114, 3) := by decide +kernel
theorem dX10_sizes_23 : decode cX10_sizes 23 = .ok (.ifCond .ne 5, 3) := by decide +kernel
theorem dX10_sizes_26 : decode cX10_sizes 26 = .ok (.iconst (-1), 1) := by decide +kernel
theorem dX10_sizes_27 : decode cX10_sizes 27 = .ok (.ireturn, 1) := by decide +kernel
theorem dX10_sizes_28 : decode cX10_sizes 28 = .ok (.aload_n 0, 1) := by decide +kernel
theorem dX10_sizes_29 : decode cX10_sizes 29 = .ok (.iload_n 2, 1) := by decide +kernel
theorem dX10_sizes_30 : decode cX10_sizes 30 = .ok (.iconst 1, 1) := by decide +kernel
theorem dX10_sizes_31 : decode cX10_sizes 31 = .ok (.invokevirtual 122, 3) := by decide +kernel
theorem dX10_sizes_34 : decode cX10_sizes 34 = .ok (.istore 5, 2) := by decide +kernel
theorem dX10_sizes_36 : decode cX10_sizes 36 = .ok (.iload 5, 2) := by decide +kernel
theorem dX10_sizes_38 : decode cX10_sizes 38 = .ok (.ifCond .eq 6, 3) := by decide +kernel
theorem dX10_sizes_41 : decode cX10_sizes 41 = .ok (.iload 5, 2) := by decide +kernel
theorem dX10_sizes_43 : decode cX10_sizes 43 = .ok (.ireturn, 1) := by decide +kernel
theorem dX10_sizes_44 : decode cX10_sizes 44 = .ok (.iconst 0, 1) := by decide +kernel
theorem dX10_sizes_45 : decode cX10_sizes 45 = .ok (.istore 6, 2) := by decide +kernel
theorem dX10_sizes_47 : decode cX10_sizes 47 = .ok (.iconst 0, 1) := by decide +kernel
theorem dX10_sizes_48 : decode cX10_sizes 48 = .ok (.istore 7, 2) := by decide +kernel
theorem dX10_sizes_50 : decode cX10_sizes 50 = .ok (.iload 7, 2) := by decide +kernel
theorem dX10_sizes_52 : decode cX10_sizes 52 = .ok (.iload 4, 2) := by decide +kernel
theorem dX10_sizes_54 : decode cX10_sizes 54 = .ok (.if_icmp .ge 94, 3) := by decide +kernel
theorem dX10_sizes_57 : decode cX10_sizes 57 = .ok (.iload_n 3, 1) := by decide +kernel
theorem dX10_sizes_58 : decode cX10_sizes 58 = .ok (.ifCond .lt 18, 3) := by decide +kernel
theorem dX10_sizes_61 : decode cX10_sizes 61 = .ok (.iload_n 3, 1) := by decide +kernel
theorem dX10_sizes_62 : decode cX10_sizes 62 = .ok (.aload_n 0, 1) := by decide +kernel
theorem dX10_sizes_63 : decode cX10_sizes 63 = .ok (.getfield 86, 3) := by decide +kernel
theorem dX10_sizes_66 : decode cX10_sizes 66 = .ok (.iload_n 2, 1) := by decide +kernel
theorem dX10_sizes_67 : decode cX10_sizes 67 = .ok (.iaload, 1) := by decide +kernel
theorem dX10_sizes_68 : decode cX10_sizes 68 = .ok (.iconst 1, 1) := by decide +kernel
theorem dX10_sizes_69 : decode cX10_sizes 69 = .ok (.isub, 1) := by decide +kernel
theorem dX10_sizes_70 : decode cX10_sizes 70 = .ok (.iload 7, 2) := by decide +kernel
theorem dX10_sizes_72 : decode cX10_sizes 72 = .ok (.isub, 1) := by decide +kernel
theorem dX10_sizes_73 : decode cX10_sizes 73 = .ok (.if_icmp .le 6, 3) := by decide +kernel
theorem dX10_sizes_76 : decode cX10_sizes 76 = .ok (.bipush (-12), 2) := by decide +kernel
theorem dX10_sizes_78 : decode cX10_sizes 78 = .ok (.ireturn, 1) := by decide +kernel
theorem dX10_sizes_79 : decode cX10_sizes 79 = .ok (.aload_n 0, 1) := by decide +kernel
theorem dX10_sizes_80 : decode cX10_sizes 80 = .ok (.getfield 89, 3) := by decide +kernel
theorem dX10_sizes_83 : decode cX10_sizes 83 = .ok (.bipush 40, 2) := by decide +kernel
theorem dX10_sizes_85 : decode cX10_sizes 85 = .ok (.iload_n 2, 1) := by decide +kernel
theorem dX10_sizes_86 : decode cX10_sizes 86 = .ok (.imul, 1) := by decide +kernel
theorem dX10_sizes_87 : decode cX10_sizes 87 = .ok (.iload_n 3, 1) := by decide +kernel
theorem dX10_sizes_88 : decode cX10_sizes 88 = .ok (.iadd, 1) := by decide +kernel
theorem dX10_sizes_89 : decode cX10_sizes 89 = .ok (.iload 7, 2) := by decide +kernel
theorem dX10_sizes_91 : decode cX10_sizes 91 = .ok (.iadd, 1) := by decide +kernel
theorem dX10_sizes_92 : decode cX10_sizes 92 = .ok (.laload, 1) := by decide +kernel
theorem dX10_sizes_93 : decode cX10_sizes 93 = .ok (.lstore 8, 2) := by decide +kernel
theorem dX10_sizes_95 : decode cX10_sizes 95 = .ok (.lload 8, 2) := by decide +kernel
theorem dX10_sizes_97 : decode cX10_sizes 97 = .ok (.lconst 1, 1) := by decide +kernel
theorem dX10_sizes_98 : decode cX10_sizes 98 = .ok (.lcmp, 1) := by decide +kernel
theorem dX10_sizes_99 : decode cX10_sizes 99 = .ok (.ifCond .lt 43, 3) := by decide +kernel
theorem dX10_sizes_102 : decode cX10_sizes 102 = .ok (.lload 8, 2) := by decide +kernel
theorem dX10_sizes_104 : decode cX10_sizes 104 = .ok (.ldc2_w 358, 3) := by decide +kernel
theorem dX10_sizes_107 : decode cX10_sizes 107 = .ok (.lcmp, 1) := by decide +kernel
theorem dX10_sizes_108 : decode cX10_sizes 108 = .ok (.ifCond .gt 34, 3) := by decide +kernel
theorem dX10_sizes_111 : decode cX10_sizes 111 = .ok (.aload_n 0, 1) := by decide +kernel
theorem dX10_sizes_112 : decode cX10_sizes 112 = .ok (.iload_n 1, 1) := by decide +kernel
theorem dX10_sizes_113 : decode cX10_sizes 113 = .ok (.iload 7, 2) := by decide +kernel
theorem dX10_sizes_115 : decode cX10_sizes 115 = .ok (.iadd, 1) := by decide +kernel
theorem dX10_sizes_116 : decode cX10_sizes 116 = .ok (.invokevirtual 134, 3) := by decide +kernel
theorem dX10_sizes_119 : decode cX10_sizes 119 = .ok (.ifCond .eq 23, 3) := by decide +kernel
theorem dX10_sizes_122 : decode cX10_sizes 122 = .ok (.aload_n 0, 1) := by decide +kernel
theorem dX10_sizes_123 : decode cX10_sizes 123 = .ok (.getfield 17, 3) := by decide +kernel
theorem dX10_sizes_126 : decode cX10_sizes 126 = .ok (.bipush 10, 2) := by decide +kernel
theorem dX10_sizes_128 : decode cX10_sizes 128 = .ok (.iload_n 1, 1) := by decide +kernel
theorem dX10_sizes_129 : decode cX10_sizes 129 = .ok (.iload 7, 2) := by decide +kernel
theorem dX10_sizes_131 : decode cX10_sizes 131 = .ok (.iadd, 1) := by decide +kernel
theorem dX10_sizes_132 : decode cX10_sizes 132 = .ok (.imul, 1) := by decide +kernel
theorem dX10_sizes_133 : decode cX10_sizes 133 = .ok (.iconst 3, 1) := by decide +kernel
theorem dX10_sizes_134 : decode cX10_sizes 134 = .ok (.iadd, 1) := by decide +kernel
theorem dX10_sizes_135 : decode cX10_sizes 135 = .ok (.lload 8, 2) := by decide +kernel
theorem dX10_sizes_137 : decode cX10_sizes 137 = .ok (.l2i, 1) := by decide +kernel
theorem dX10_sizes_138 : decode cX10_sizes 138 = .ok (.iastore, 1) := by decide +kernel
theorem dX10_sizes_139 : decode cX10_sizes 139 = .ok (.iinc 6 1, 3) := by decide +kernel
theorem dX10_sizes_142 : decode cX10_sizes 142 = .ok (.iinc 7 1, 3) := by decide +kernel
theorem dX10_sizes_145 : decode cX10_sizes 145 = .ok (.goto (-95), 3) := by decide +kernel
theorem dX10_sizes_148 : decode cX10_sizes 148 = .ok (.iload 6, 2) := by decide +kernel
theorem dX10_sizes_150 : decode cX10_sizes 150 = .ok (.ireturn, 1) := by decide +kernel
theorem dX10_shelf_0 : decode cX10_shelf 0 = .ok (.iload_n 1, 1) := by decide +kernel
theorem dX10_shelf_1 : decode cX10_shelf 1 = .ok (.invokestatic 118, 3) := by decide +kernel
theorem dX10_shelf_4 : decode cX10_shelf 4 = .ok (.ifCond .eq 36, 3) := by decide +kernel
theorem dX10_shelf_7 : decode cX10_shelf 7 = .ok (.iload_n 2, 1) := by decide +kernel
theorem dX10_shelf_8 : decode cX10_shelf 8 = .ok (.iconst 0, 1) := by decide +kernel
theorem dX10_shelf_9 : decode cX10_shelf 9 = .ok (.iconst 2, 1) := by decide +kernel
theorem dX10_shelf_10 : decode cX10_shelf 10 = .ok (.invokestatic 114, 3) := by decide +kernel
theorem dX10_shelf_13 : decode cX10_shelf 13 = .ok (.ifCond .eq 27, 3) := by decide +kernel
theorem dX10_shelf_16 : decode cX10_shelf 16 = .ok (.iload_n 2, 1) := by decide +kernel
theorem dX10_shelf_17 : decode cX10_shelf 17 = .ok (.ifCond .ne 11, 3) := by decide +kernel
theorem dX10_shelf_20 : decode cX10_shelf 20 = .ok (.aload_n 0, 1) := by decide +kernel
theorem dX10_shelf_21 : decode cX10_shelf 21 = .ok (.iload_n 3, 1) := by decide +kernel
theorem dX10_shelf_22 : decode cX10_shelf 22 = .ok (.invokevirtual 134, 3) := by decide +kernel
theorem dX10_shelf_25 : decode cX10_shelf 25 = .ok (.ifCond .eq 15, 3) := by decide +kernel
theorem dX10_shelf_28 : decode cX10_shelf 28 = .ok (.iload_n 2, 1) := by decide +kernel
theorem dX10_shelf_29 : decode cX10_shelf 29 = .ok (.iconst 1, 1) := by decide +kernel
theorem dX10_shelf_30 : decode cX10_shelf 30 = .ok (.if_icmp .ne 12, 3) := by decide +kernel
theorem dX10_shelf_33 : decode cX10_shelf 33 = .ok (.iload_n 3, 1) := by decide +kernel
theorem dX10_shelf_34 : decode cX10_shelf 34 = .ok (.invokestatic 118, 3) := by decide +kernel
theorem dX10_shelf_37 : decode cX10_shelf 37 = .ok (.ifCond .ne 5, 3) := by decide +kernel
theorem dX10_shelf_40 : decode cX10_shelf 40 = .ok (.iconst (-1), 1) := by decide +kernel
theorem dX10_shelf_41 : decode cX10_shelf 41 = .ok (.ireturn, 1) := by decide +kernel
theorem dX10_shelf_42 : decode cX10_shelf 42 = .ok (.aload_n 0, 1) := by decide +kernel
theorem dX10_shelf_43 : decode cX10_shelf 43 = .ok (.getfield 93, 3) := by decide +kernel
theorem dX10_shelf_46 : decode cX10_shelf 46 = .ok (.iload_n 1, 1) := by decide +kernel
theorem dX10_shelf_47 : decode cX10_shelf 47 = .ok (.iload_n 2, 1) := by decide +kernel
theorem dX10_shelf_48 : decode cX10_shelf 48 = .ok (.iconst 2, 1) := by decide +kernel
theorem dX10_shelf_49 : decode cX10_shelf 49 = .ok (.if_icmp .eq 17, 3) := by decide +kernel
theorem dX10_shelf_52 : decode cX10_shelf 52 = .ok (.iload_n 2, 1) := by decide +kernel
theorem dX10_shelf_53 : decode cX10_shelf 53 = .ok (.iconst 1, 1) := by decide +kernel
theorem dX10_shelf_54 : decode cX10_shelf 54 = .ok (.if_icmp .ne 16, 3) := by decide +kernel
theorem dX10_shelf_57 : decode cX10_shelf 57 = .ok (.aload_n 0, 1) := by decide +kernel
theorem dX10_shelf_58 : decode cX10_shelf 58 = .ok (.getfield 83, 3) := by decide +kernel
theorem dX10_shelf_61 : decode cX10_shelf 61 = .ok (.iload_n 3, 1) := by decide +kernel
theorem dX10_shelf_62 : decode cX10_shelf 62 = .ok (.iaload, 1) := by decide +kernel
theorem dX10_shelf_63 : decode cX10_shelf 63 = .ok (.ifCond .ge 7, 3) := by decide +kernel
theorem dX10_shelf_66 : decode cX10_shelf 66 = .ok (.iconst (-1), 1) := by decide +kernel
theorem dX10_shelf_67 : decode cX10_shelf 67 = .ok (.goto 4, 3) := by decide +kernel
theorem dX10_shelf_70 : decode cX10_shelf 70 = .ok (.iload_n 2, 1) := by decide +kernel
theorem dX10_shelf_71 : decode cX10_shelf 71 = .ok (.iastore, 1) := by decide +kernel
theorem dX10_shelf_72 : decode cX10_shelf 72 = .ok (.aload_n 0, 1) := by decide +kernel
theorem dX10_shelf_73 : decode cX10_shelf 73 = .ok (.getfield 96, 3) := by decide +kernel
theorem dX10_shelf_76 : decode cX10_shelf 76 = .ok (.iload_n 1, 1) := by decide +kernel
theorem dX10_shelf_77 : decode cX10_shelf 77 = .ok (.iload_n 2, 1) := by decide +kernel
theorem dX10_shelf_78 : decode cX10_shelf 78 = .ok (.iconst 1, 1) := by decide +kernel
theorem dX10_shelf_79 : decode cX10_shelf 79 = .ok (.if_icmp .ne 12, 3) := by decide +kernel
theorem dX10_shelf_82 : decode cX10_shelf 82 = .ok (.aload_n 0, 1) := by decide +kernel
theorem dX10_shelf_83 : decode cX10_shelf 83 = .ok (.getfield 83, 3) := by decide +kernel
theorem dX10_shelf_86 : decode cX10_shelf 86 = .ok (.iload_n 3, 1) := by decide +kernel
theorem dX10_shelf_87 : decode cX10_shelf 87 = .ok (.iaload, 1) := by decide +kernel
theorem dX10_shelf_88 : decode cX10_shelf 88 = .ok (.goto 4, 3) := by decide +kernel
theorem dX10_shelf_91 : decode cX10_shelf 91 = .ok (.iload_n 3, 1) := by decide +kernel
theorem dX10_shelf_92 : decode cX10_shelf 92 = .ok (.iastore, 1) := by decide +kernel
theorem dX10_shelf_93 : decode cX10_shelf 93 = .ok (.aload_n 0, 1) := by decide +kernel
theorem dX10_shelf_94 : decode cX10_shelf 94 = .ok (.getfield 99, 3) := by decide +kernel
theorem dX10_shelf_97 : decode cX10_shelf 97 = .ok (.iload_n 1, 1) := by decide +kernel
theorem dX10_shelf_98 : decode cX10_shelf 98 = .ok (.iload_n 2, 1) := by decide +kernel
theorem dX10_shelf_99 : decode cX10_shelf 99 = .ok (.iconst 1, 1) := by decide +kernel
theorem dX10_shelf_100 : decode cX10_shelf 100 = .ok (.if_icmp .ne 12, 3) := by decide +kernel
theorem dX10_shelf_103 : decode cX10_shelf 103 = .ok (.aload_n 0, 1) := by decide +kernel
theorem dX10_shelf_104 : decode cX10_shelf 104 = .ok (.getfield 86, 3) := by decide +kernel
theorem dX10_shelf_107 : decode cX10_shelf 107 = .ok (.iload_n 3, 1) := by decide +kernel
theorem dX10_shelf_108 : decode cX10_shelf 108 = .ok (.iaload, 1) := by decide +kernel
theorem dX10_shelf_109 : decode cX10_shelf 109 = .ok (.goto 4, 3) := by decide +kernel
theorem dX10_shelf_112 : decode cX10_shelf 112 = .ok (.iconst 0, 1) := by decide +kernel
theorem dX10_shelf_113 : decode cX10_shelf 113 = .ok (.iastore, 1) := by decide +kernel
theorem dX10_shelf_114 : decode cX10_shelf 114 = .ok (.iconst 1, 1) := by decide +kernel
theorem dX10_shelf_115 : decode cX10_shelf 115 = .ok (.ireturn, 1) := by decide +kernel
theorem dX10_kindOn_0 : decode cX10_kindOn 0 = .ok (.aload_n 0, 1) := by decide +kernel
theorem dX10_kindOn_1 : decode cX10_kindOn 1 = .ok (.getfield 93, 3) := by decide +kernel
theorem dX10_kindOn_4 : decode cX10_kindOn 4 = .ok (.iload_n 1, 1) := by decide +kernel
theorem dX10_kindOn_5 : decode cX10_kindOn 5 = .ok (.iaload, 1) := by decide +kernel
theorem dX10_kindOn_6 : decode cX10_kindOn 6 = .ok (.ifCond .eq 19, 3) := by decide +kernel
theorem dX10_kindOn_9 : decode cX10_kindOn 9 = .ok (.aload_n 0, 1) := by decide +kernel
theorem dX10_kindOn_10 : decode cX10_kindOn 10 = .ok (.getfield 93, 3) := by decide +kernel
theorem dX10_kindOn_13 : decode cX10_kindOn 13 = .ok (.iload_n 1, 1) := by decide +kernel
theorem dX10_kindOn_14 : decode cX10_kindOn 14 = .ok (.iaload, 1) := by decide +kernel
theorem dX10_kindOn_15 : decode cX10_kindOn 15 = .ok (.ifCond .ge 7, 3) := by decide +kernel
theorem dX10_kindOn_18 : decode cX10_kindOn 18 = .ok (.iconst (-1), 1) := by decide +kernel
theorem dX10_kindOn_19 : decode cX10_kindOn 19 = .ok (.goto 5, 3) := by decide +kernel
theorem dX10_kindOn_22 : decode cX10_kindOn 22 = .ok (.bipush 9, 2) := by decide +kernel
theorem dX10_kindOn_24 : decode cX10_kindOn 24 = .ok (.ireturn, 1) := by decide +kernel
theorem dX10_kindOn_25 : decode cX10_kindOn 25 = .ok (.aload_n 0, 1) := by decide +kernel
theorem dX10_kindOn_26 : decode cX10_kindOn 26 = .ok (.getfield 96, 3) := by decide +kernel
theorem dX10_kindOn_29 : decode cX10_kindOn 29 = .ok (.iload_n 1, 1) := by decide +kernel
theorem dX10_kindOn_30 : decode cX10_kindOn 30 = .ok (.iaload, 1) := by decide +kernel
theorem dX10_kindOn_31 : decode cX10_kindOn 31 = .ok (.istore_n 2, 1) := by decide +kernel
theorem dX10_kindOn_32 : decode cX10_kindOn 32 = .ok (.aload_n 0, 1) := by decide +kernel
theorem dX10_kindOn_33 : decode cX10_kindOn 33 = .ok (.iload_n 2, 1) := by decide +kernel
theorem dX10_kindOn_34 : decode cX10_kindOn 34 = .ok (.invokevirtual 134, 3) := by decide +kernel
theorem dX10_kindOn_37 : decode cX10_kindOn 37 = .ok (.ifCond .ne 7, 3) := by decide +kernel
theorem dX10_kindOn_40 : decode cX10_kindOn 40 = .ok (.iconst (-1), 1) := by decide +kernel
theorem dX10_kindOn_41 : decode cX10_kindOn 41 = .ok (.goto 23, 3) := by decide +kernel
theorem dX10_kindOn_44 : decode cX10_kindOn 44 = .ok (.aload_n 0, 1) := by decide +kernel
theorem dX10_kindOn_45 : decode cX10_kindOn 45 = .ok (.iload_n 2, 1) := by decide +kernel
theorem dX10_kindOn_46 : decode cX10_kindOn 46 = .ok (.iconst 4, 1) := by decide +kernel
theorem dX10_kindOn_47 : decode cX10_kindOn 47 = .ok (.invokevirtual 137, 3) := by decide +kernel
theorem dX10_kindOn_50 : decode cX10_kindOn 50 = .ok (.ifCond .le 8, 3) := by decide +kernel
theorem dX10_kindOn_53 : decode cX10_kindOn 53 = .ok (.bipush 6, 2) := by decide +kernel
theorem dX10_kindOn_55 : decode cX10_kindOn 55 = .ok (.goto 9, 3) := by decide +kernel
theorem dX10_kindOn_58 : decode cX10_kindOn 58 = .ok (.aload_n 0, 1) := by decide +kernel
theorem dX10_kindOn_59 : decode cX10_kindOn 59 = .ok (.iload_n 2, 1) := by decide +kernel
theorem dX10_kindOn_60 : decode cX10_kindOn 60 = .ok (.iconst 0, 1) := by decide +kernel
theorem dX10_kindOn_61 : decode cX10_kindOn 61 = .ok (.invokevirtual 137, 3) := by decide +kernel
theorem dX10_kindOn_64 : decode cX10_kindOn 64 = .ok (.ireturn, 1) := by decide +kernel
theorem dX10_isUnder_0 : decode cX10_isUnder 0 = .ok (.iload_n 1, 1) := by decide +kernel
theorem dX10_isUnder_1 : decode cX10_isUnder 1 = .ok (.ifCond .eq 32, 3) := by decide +kernel
theorem dX10_isUnder_4 : decode cX10_isUnder 4 = .ok (.iload_n 0, 1) := by decide +kernel
theorem dX10_isUnder_5 : decode cX10_isUnder 5 = .ok (.iload_n 1, 1) := by decide +kernel
theorem dX10_isUnder_6 : decode cX10_isUnder 6 = .ok (.if_icmp .eq 27, 3) := by decide +kernel
theorem dX10_isUnder_9 : decode cX10_isUnder 9 = .ok (.iload_n 1, 1) := by decide +kernel
theorem dX10_isUnder_10 : decode cX10_isUnder 10 = .ok (.iconst 1, 1) := by decide +kernel
theorem dX10_isUnder_11 : decode cX10_isUnder 11 = .ok (.if_icmp .ne 12, 3) := by decide +kernel
theorem dX10_isUnder_14 : decode cX10_isUnder 14 = .ok (.iload_n 0, 1) := by decide +kernel
theorem dX10_isUnder_15 : decode cX10_isUnder 15 = .ok (.iconst 2, 1) := by decide +kernel
theorem dX10_isUnder_16 : decode cX10_isUnder 16 = .ok (.iconst 3, 1) := by decide +kernel
theorem dX10_isUnder_17 : decode cX10_isUnder 17 = .ok (.invokestatic 114, 3) := by decide +kernel
theorem dX10_isUnder_20 : decode cX10_isUnder 20 = .ok (.ifCond .ne 13, 3) := by decide +kernel
theorem dX10_isUnder_23 : decode cX10_isUnder 23 = .ok (.iload_n 1, 1) := by decide +kernel
theorem dX10_isUnder_24 : decode cX10_isUnder 24 = .ok (.iconst 2, 1) := by decide +kernel
theorem dX10_isUnder_25 : decode cX10_isUnder 25 = .ok (.if_icmp .ne 12, 3) := by decide +kernel
theorem dX10_isUnder_28 : decode cX10_isUnder 28 = .ok (.iload_n 0, 1) := by decide +kernel
theorem dX10_isUnder_29 : decode cX10_isUnder 29 = .ok (.iconst 3, 1) := by decide +kernel
theorem dX10_isUnder_30 : decode cX10_isUnder 30 = .ok (.if_icmp .ne 7, 3) := by decide +kernel
theorem dX10_isUnder_33 : decode cX10_isUnder 33 = .ok (.iconst 1, 1) := by decide +kernel
theorem dX10_isUnder_34 : decode cX10_isUnder 34 = .ok (.goto 4, 3) := by decide +kernel
theorem dX10_isUnder_37 : decode cX10_isUnder 37 = .ok (.iconst 0, 1) := by decide +kernel
theorem dX10_isUnder_38 : decode cX10_isUnder 38 = .ok (.ireturn, 1) := by decide +kernel
theorem dX10_taken_0 : decode cX10_taken 0 = .ok (.iload_n 1, 1) := by decide +kernel
theorem dX10_taken_1 : decode cX10_taken 1 = .ok (.invokestatic 118, 3) := by decide +kernel
theorem dX10_taken_4 : decode cX10_taken 4 = .ok (.ifCond .eq 24, 3) := by decide +kernel
theorem dX10_taken_7 : decode cX10_taken 7 = .ok (.iload_n 2, 1) := by decide +kernel
theorem dX10_taken_8 : decode cX10_taken 8 = .ok (.iconst 0, 1) := by decide +kernel
theorem dX10_taken_9 : decode cX10_taken 9 = .ok (.bipush 6, 2) := by decide +kernel
theorem dX10_taken_11 : decode cX10_taken 11 = .ok (.invokestatic 114, 3) := by decide +kernel
theorem dX10_taken_14 : decode cX10_taken 14 = .ok (.ifCond .ne 16, 3) := by decide +kernel
theorem dX10_taken_17 : decode cX10_taken 17 = .ok (.iload_n 2, 1) := by decide +kernel
theorem dX10_taken_18 : decode cX10_taken 18 = .ok (.bipush 10, 2) := by decide +kernel
theorem dX10_taken_20 : decode cX10_taken 20 = .ok (.bipush 13, 2) := by decide +kernel
theorem dX10_taken_22 : decode cX10_taken 22 = .ok (.invokestatic 114, 3) := by decide +kernel
theorem dX10_taken_25 : decode cX10_taken 25 = .ok (.ifCond .ne 5, 3) := by decide +kernel
theorem dX10_taken_28 : decode cX10_taken 28 = .ok (.iconst (-1), 1) := by decide +kernel
theorem dX10_taken_29 : decode cX10_taken 29 = .ok (.ireturn, 1) := by decide +kernel
theorem dX10_taken_30 : decode cX10_taken 30 = .ok (.aload_n 0, 1) := by decide +kernel
theorem dX10_taken_31 : decode cX10_taken 31 = .ok (.iload_n 1, 1) := by decide +kernel
theorem dX10_taken_32 : decode cX10_taken 32 = .ok (.invokevirtual 360, 3) := by decide +kernel
theorem dX10_taken_35 : decode cX10_taken 35 = .ok (.istore_n 3, 1) := by decide +kernel
theorem dX10_taken_36 : decode cX10_taken 36 = .ok (.iload_n 3, 1) := by decide +kernel
theorem dX10_taken_37 : decode cX10_taken 37 = .ok (.ifCond .ge 6, 3) := by decide +kernel
theorem dX10_taken_40 : decode cX10_taken 40 = .ok (.bipush (-11), 2) := by decide +kernel
theorem dX10_taken_42 : decode cX10_taken 42 = .ok (.ireturn, 1) := by decide +kernel
theorem dX10_taken_43 : decode cX10_taken 43 = .ok (.iload_n 3, 1) := by decide +kernel
theorem dX10_taken_44 : decode cX10_taken 44 = .ok (.bipush 9, 2) := by decide +kernel
theorem dX10_taken_46 : decode cX10_taken 46 = .ok (.if_icmp .ne 28, 3) := by decide +kernel
theorem dX10_taken_49 : decode cX10_taken 49 = .ok (.iload_n 2, 1) := by decide +kernel
theorem dX10_taken_50 : decode cX10_taken 50 = .ok (.bipush 10, 2) := by decide +kernel
theorem dX10_taken_52 : decode cX10_taken 52 = .ok (.aload_n 0, 1) := by decide +kernel
theorem dX10_taken_53 : decode cX10_taken 53 = .ok (.getfield 96, 3) := by decide +kernel
theorem dX10_taken_56 : decode cX10_taken 56 = .ok (.iload_n 1, 1) := by decide +kernel
theorem dX10_taken_57 : decode cX10_taken 57 = .ok (.iaload, 1) := by decide +kernel
theorem dX10_taken_58 : decode cX10_taken 58 = .ok (.iadd, 1) := by decide +kernel
theorem dX10_taken_59 : decode cX10_taken 59 = .ok (.if_icmp .ne 12, 3) := by decide +kernel
theorem dX10_taken_62 : decode cX10_taken 62 = .ok (.aload_n 0, 1) := by decide +kernel
theorem dX10_taken_63 : decode cX10_taken 63 = .ok (.getfield 99, 3) := by decide +kernel
theorem dX10_taken_66 : decode cX10_taken 66 = .ok (.iload_n 1, 1) := by decide +kernel
theorem dX10_taken_67 : decode cX10_taken 67 = .ok (.iaload, 1) := by decide +kernel
theorem dX10_taken_68 : decode cX10_taken 68 = .ok (.goto 5, 3) := by decide +kernel
theorem dX10_taken_71 : decode cX10_taken 71 = .ok (.bipush (-13), 2) := by decide +kernel
theorem dX10_taken_73 : decode cX10_taken 73 = .ok (.ireturn, 1) := by decide +kernel
theorem dX10_taken_74 : decode cX10_taken 74 = .ok (.iload_n 2, 1) := by decide +kernel
theorem dX10_taken_75 : decode cX10_taken 75 = .ok (.bipush 10, 2) := by decide +kernel
theorem dX10_taken_77 : decode cX10_taken 77 = .ok (.if_icmp .ge 20, 3) := by decide +kernel
theorem dX10_taken_80 : decode cX10_taken 80 = .ok (.iload_n 3, 1) := by decide +kernel
theorem dX10_taken_81 : decode cX10_taken 81 = .ok (.iload_n 2, 1) := by decide +kernel
theorem dX10_taken_82 : decode cX10_taken 82 = .ok (.invokestatic 363, 3) := by decide +kernel
theorem dX10_taken_85 : decode cX10_taken 85 = .ok (.ifCond .eq 12, 3) := by decide +kernel
theorem dX10_taken_88 : decode cX10_taken 88 = .ok (.aload_n 0, 1) := by decide +kernel
theorem dX10_taken_89 : decode cX10_taken 89 = .ok (.getfield 96, 3) := by decide +kernel
theorem dX10_taken_92 : decode cX10_taken 92 = .ok (.iload_n 1, 1) := by decide +kernel
theorem dX10_taken_93 : decode cX10_taken 93 = .ok (.iaload, 1) := by decide +kernel
theorem dX10_taken_94 : decode cX10_taken 94 = .ok (.goto 5, 3) := by decide +kernel
theorem dX10_taken_97 : decode cX10_taken 97 = .ok (.bipush (-13), 2) := by decide +kernel
theorem dX10_taken_99 : decode cX10_taken 99 = .ok (.ireturn, 1) := by decide +kernel
theorem dX10_ran_0 : decode cX10_ran 0 = .ok (.aload_n 0, 1) := by decide +kernel
theorem dX10_ran_1 : decode cX10_ran 1 = .ok (.getfield 366, 3) := by decide +kernel
theorem dX10_ran_4 : decode cX10_ran 4 = .ok (.bipush 30, 2) := by decide +kernel
theorem dX10_ran_6 : decode cX10_ran 6 = .ok (.if_icmp .ge 23, 3) := by decide +kernel
theorem dX10_ran_9 : decode cX10_ran 9 = .ok (.aload_n 0, 1) := by decide +kernel
theorem dX10_ran_10 : decode cX10_ran 10 = .ok (.getfield 102, 3) := by decide +kernel
theorem dX10_ran_13 : decode cX10_ran 13 = .ok (.aload_n 0, 1) := by decide +kernel
theorem dX10_ran_14 : decode cX10_ran 14 = .ok (.getfield 366, 3) := by decide +kernel
theorem dX10_ran_17 : decode cX10_ran 17 = .ok (.iload_n 1, 1) := by decide +kernel
theorem dX10_ran_18 : decode cX10_ran 18 = .ok (.iastore, 1) := by decide +kernel
theorem dX10_ran_19 : decode cX10_ran 19 = .ok (.aload_n 0, 1) := by decide +kernel
theorem dX10_ran_20 : decode cX10_ran 20 = .ok (.dup, 1) := by decide +kernel
theorem dX10_ran_21 : decode cX10_ran 21 = .ok (.getfield 366, 3) := by decide +kernel
theorem dX10_ran_24 : decode cX10_ran 24 = .ok (.iconst 1, 1) := by decide +kernel
theorem dX10_ran_25 : decode cX10_ran 25 = .ok (.iadd, 1) := by decide +kernel
theorem dX10_ran_26 : decode cX10_ran 26 = .ok (.putfield 366, 3) := by decide +kernel
theorem dX10_ran_29 : decode cX10_ran 29 = .ok (.return_, 1) := by decide +kernel
theorem dX10_flowsIt_0 : decode cX10_flowsIt 0 = .ok (.aload_n 0, 1) := by decide +kernel
theorem dX10_flowsIt_1 : decode cX10_flowsIt 1 = .ok (.getfield 369, 3) := by decide +kernel
theorem dX10_flowsIt_4 : decode cX10_flowsIt 4 = .ok (.bipush 6, 2) := by decide +kernel
theorem dX10_flowsIt_6 : decode cX10_flowsIt 6 = .ok (.if_icmp .ne 9, 3) := by decide +kernel
theorem dX10_flowsIt_9 : decode cX10_flowsIt 9 = .ok (.aload_n 0, 1) := by decide +kernel
theorem dX10_flowsIt_10 : decode cX10_flowsIt 10 = .ok (.bipush 70, 2) := by decide +kernel
theorem dX10_flowsIt_12 : decode cX10_flowsIt 12 = .ok (.invokevirtual 372, 3) := by decide +kernel
theorem dX10_flowsIt_15 : decode cX10_flowsIt 15 = .ok (.aload_n 0, 1) := by decide +kernel
theorem dX10_flowsIt_16 : decode cX10_flowsIt 16 = .ok (.getfield 369, 3) := by decide +kernel
theorem dX10_flowsIt_19 : decode cX10_flowsIt 19 = .ok (.iconst 3, 1) := by decide +kernel
theorem dX10_flowsIt_20 : decode cX10_flowsIt 20 = .ok (.if_icmp .ne 9, 3) := by decide +kernel
theorem dX10_flowsIt_23 : decode cX10_flowsIt 23 = .ok (.aload_n 0, 1) := by decide +kernel
theorem dX10_flowsIt_24 : decode cX10_flowsIt 24 = .ok (.bipush 40, 2) := by decide +kernel
theorem dX10_flowsIt_26 : decode cX10_flowsIt 26 = .ok (.invokevirtual 372, 3) := by decide +kernel
theorem dX10_flowsIt_29 : decode cX10_flowsIt 29 = .ok (.aload_n 0, 1) := by decide +kernel
theorem dX10_flowsIt_30 : decode cX10_flowsIt 30 = .ok (.getfield 369, 3) := by decide +kernel
theorem dX10_flowsIt_33 : decode cX10_flowsIt 33 = .ok (.iconst 1, 1) := by decide +kernel
theorem dX10_flowsIt_34 : decode cX10_flowsIt 34 = .ok (.iconst 3, 1) := by decide +kernel
theorem dX10_flowsIt_35 : decode cX10_flowsIt 35 = .ok (.invokestatic 114, 3) := by decide +kernel
theorem dX10_flowsIt_38 : decode cX10_flowsIt 38 = .ok (.ifCond .eq 9, 3) := by decide +kernel
theorem dX10_flowsIt_41 : decode cX10_flowsIt 41 = .ok (.aload_n 0, 1) := by decide +kernel
theorem dX10_flowsIt_42 : decode cX10_flowsIt 42 = .ok (.bipush 20, 2) := by decide +kernel
theorem dX10_flowsIt_44 : decode cX10_flowsIt 44 = .ok (.invokevirtual 372, 3) := by decide +kernel
theorem dX10_flowsIt_47 : decode cX10_flowsIt 47 = .ok (.aload_n 0, 1) := by decide +kernel
theorem dX10_flowsIt_48 : decode cX10_flowsIt 48 = .ok (.bipush 10, 2) := by decide +kernel
theorem dX10_flowsIt_50 : decode cX10_flowsIt 50 = .ok (.invokevirtual 372, 3) := by decide +kernel
theorem dX10_flowsIt_53 : decode cX10_flowsIt 53 = .ok (.iload_n 1, 1) := by decide +kernel
theorem dX10_flowsIt_54 : decode cX10_flowsIt 54 = .ok (.aload_n 0, 1) := by decide +kernel
theorem dX10_flowsIt_55 : decode cX10_flowsIt 55 = .ok (.getfield 375, 3) := by decide +kernel
theorem dX10_flowsIt_58 : decode cX10_flowsIt 58 = .ok (.iadd, 1) := by decide +kernel
theorem dX10_flowsIt_59 : decode cX10_flowsIt 59 = .ok (.aload_n 0, 1) := by decide +kernel
theorem dX10_flowsIt_60 : decode cX10_flowsIt 60 = .ok (.getfield 369, 3) := by decide +kernel
theorem dX10_flowsIt_63 : decode cX10_flowsIt 63 = .ok (.iconst 1, 1) := by decide +kernel
theorem dX10_flowsIt_64 : decode cX10_flowsIt 64 = .ok (.iconst 3, 1) := by decide +kernel
theorem dX10_flowsIt_65 : decode cX10_flowsIt 65 = .ok (.invokestatic 114, 3) := by decide +kernel
theorem dX10_flowsIt_68 : decode cX10_flowsIt 68 = .ok (.ifCond .eq 7, 3) := by decide +kernel
theorem dX10_flowsIt_71 : decode cX10_flowsIt 71 = .ok (.iconst 3, 1) := by decide +kernel
theorem dX10_flowsIt_72 : decode cX10_flowsIt 72 = .ok (.goto 4, 3) := by decide +kernel
theorem dX10_flowsIt_75 : decode cX10_flowsIt 75 = .ok (.iconst 0, 1) := by decide +kernel
theorem dX10_flowsIt_76 : decode cX10_flowsIt 76 = .ok (.isub, 1) := by decide +kernel
theorem dX10_flowsIt_77 : decode cX10_flowsIt 77 = .ok (.istore_n 2, 1) := by decide +kernel
theorem dX10_flowsIt_78 : decode cX10_flowsIt 78 = .ok (.aload_n 0, 1) := by decide +kernel
theorem dX10_flowsIt_79 : decode cX10_flowsIt 79 = .ok (.getfield 369, 3) := by decide +kernel
theorem dX10_flowsIt_82 : decode cX10_flowsIt 82 = .ok (.iconst 3, 1) := by decide +kernel
theorem dX10_flowsIt_83 : decode cX10_flowsIt 83 = .ok (.if_icmp .ne 12, 3) := by decide +kernel
theorem dX10_flowsIt_86 : decode cX10_flowsIt 86 = .ok (.iload_n 2, 1) := by decide +kernel
theorem dX10_flowsIt_87 : decode cX10_flowsIt 87 = .ok (.aload_n 0, 1) := by decide +kernel
theorem dX10_flowsIt_88 : decode cX10_flowsIt 88 = .ok (.getfield 375, 3) := by decide +kernel
theorem dX10_flowsIt_91 : decode cX10_flowsIt 91 = .ok (.ixor, 1) := by decide +kernel
theorem dX10_flowsIt_92 : decode cX10_flowsIt 92 = .ok (.goto 20, 3) := by decide +kernel
theorem dX10_flowsIt_95 : decode cX10_flowsIt 95 = .ok (.aload_n 0, 1) := by decide +kernel
theorem dX10_flowsIt_96 : decode cX10_flowsIt 96 = .ok (.getfield 369, 3) := by decide +kernel
theorem dX10_flowsIt_99 : decode cX10_flowsIt 99 = .ok (.bipush 6, 2) := by decide +kernel
theorem dX10_flowsIt_101 : decode cX10_flowsIt 101 = .ok (.if_icmp .ne 10, 3) := by decide +kernel
theorem dX10_flowsIt_104 : decode cX10_flowsIt 104 = .ok (.iload_n 2, 1) := by decide +kernel
theorem dX10_flowsIt_105 : decode cX10_flowsIt 105 = .ok (.bipush 7, 2) := by decide +kernel
theorem dX10_flowsIt_107 : decode cX10_flowsIt 107 = .ok (.imul, 1) := by decide +kernel
theorem dX10_flowsIt_108 : decode cX10_flowsIt 108 = .ok (.goto 4, 3) := by decide +kernel
theorem dX10_flowsIt_111 : decode cX10_flowsIt 111 = .ok (.iload_n 2, 1) := by decide +kernel
theorem dX10_flowsIt_112 : decode cX10_flowsIt 112 = .ok (.ireturn, 1) := by decide +kernel
theorem dX10_partRests_0 : decode cX10_partRests 0 = .ok (.aload_n 0, 1) := by decide +kernel
theorem dX10_partRests_1 : decode cX10_partRests 1 = .ok (.bipush 11, 2) := by decide +kernel
theorem dX10_partRests_3 : decode cX10_partRests 3 = .ok (.invokevirtual 372, 3) := by decide +kernel
theorem dX10_partRests_6 : decode cX10_partRests 6 = .ok (.aload_n 0, 1) := by decide +kernel
theorem dX10_partRests_7 : decode cX10_partRests 7 = .ok (.iload_n 1, 1) := by decide +kernel
theorem dX10_partRests_8 : decode cX10_partRests 8 = .ok (.invokevirtual 378, 3) := by decide +kernel
theorem dX10_partRests_11 : decode cX10_partRests 11 = .ok (.iconst 2, 1) := by decide +kernel
theorem dX10_partRests_12 : decode cX10_partRests 12 = .ok (.imul, 1) := by decide +kernel
theorem dX10_partRests_13 : decode cX10_partRests 13 = .ok (.ireturn, 1) := by decide +kernel
theorem dX10_restsIt_0 : decode cX10_restsIt 0 = .ok (.aload_n 0, 1) := by decide +kernel
theorem dX10_restsIt_1 : decode cX10_restsIt 1 = .ok (.getfield 369, 3) := by decide +kernel
theorem dX10_restsIt_4 : decode cX10_restsIt 4 = .ok (.iconst 2, 1) := by decide +kernel
theorem dX10_restsIt_5 : decode cX10_restsIt 5 = .ok (.if_icmp .eq 11, 3) := by decide +kernel
theorem dX10_restsIt_8 : decode cX10_restsIt 8 = .ok (.aload_n 0, 1) := by decide +kernel
theorem dX10_restsIt_9 : decode cX10_restsIt 9 = .ok (.getfield 369, 3) := by decide +kernel
theorem dX10_restsIt_12 : decode cX10_restsIt 12 = .ok (.iconst 3, 1) := by decide +kernel
theorem dX10_restsIt_13 : decode cX10_restsIt 13 = .ok (.if_icmp .ne 23, 3) := by decide +kernel
theorem dX10_restsIt_16 : decode cX10_restsIt 16 = .ok (.aload_n 0, 1) := by decide +kernel
theorem dX10_restsIt_17 : decode cX10_restsIt 17 = .ok (.bipush 30, 2) := by decide +kernel
theorem dX10_restsIt_19 : decode cX10_restsIt 19 = .ok (.invokevirtual 372, 3) := by decide +kernel
theorem dX10_restsIt_22 : decode cX10_restsIt 22 = .ok (.aload_n 0, 1) := by decide +kernel
theorem dX10_restsIt_23 : decode cX10_restsIt 23 = .ok (.iload_n 1, 1) := by decide +kernel
theorem dX10_restsIt_24 : decode cX10_restsIt 24 = .ok (.invokevirtual 381, 3) := by decide +kernel
theorem dX10_restsIt_27 : decode cX10_restsIt 27 = .ok (.istore_n 2, 1) := by decide +kernel
theorem dX10_restsIt_28 : decode cX10_restsIt 28 = .ok (.iload_n 2, 1) := by decide +kernel
theorem dX10_restsIt_29 : decode cX10_restsIt 29 = .ok (.aload_n 0, 1) := by decide +kernel
theorem dX10_restsIt_30 : decode cX10_restsIt 30 = .ok (.iconst 2, 1) := by decide +kernel
theorem dX10_restsIt_31 : decode cX10_restsIt 31 = .ok (.invokevirtual 378, 3) := by decide +kernel
theorem dX10_restsIt_34 : decode cX10_restsIt 34 = .ok (.iadd, 1) := by decide +kernel
theorem dX10_restsIt_35 : decode cX10_restsIt 35 = .ok (.ireturn, 1) := by decide +kernel
theorem dX10_restsIt_36 : decode cX10_restsIt 36 = .ok (.aload_n 0, 1) := by decide +kernel
theorem dX10_restsIt_37 : decode cX10_restsIt 37 = .ok (.getfield 369, 3) := by decide +kernel
theorem dX10_restsIt_40 : decode cX10_restsIt 40 = .ok (.iconst 4, 1) := by decide +kernel
theorem dX10_restsIt_41 : decode cX10_restsIt 41 = .ok (.if_icmp .ne 16, 3) := by decide +kernel
theorem dX10_restsIt_44 : decode cX10_restsIt 44 = .ok (.aload_n 0, 1) := by decide +kernel
theorem dX10_restsIt_45 : decode cX10_restsIt 45 = .ok (.bipush 50, 2) := by decide +kernel
theorem dX10_restsIt_47 : decode cX10_restsIt 47 = .ok (.invokevirtual 372, 3) := by decide +kernel
theorem dX10_restsIt_50 : decode cX10_restsIt 50 = .ok (.aload_n 0, 1) := by decide +kernel
theorem dX10_restsIt_51 : decode cX10_restsIt 51 = .ok (.iload_n 1, 1) := by decide +kernel
theorem dX10_restsIt_52 : decode cX10_restsIt 52 = .ok (.invokevirtual 381, 3) := by decide +kernel
theorem dX10_restsIt_55 : decode cX10_restsIt 55 = .ok (.ineg, 1) := by decide +kernel
theorem dX10_restsIt_56 : decode cX10_restsIt 56 = .ok (.ireturn, 1) := by decide +kernel
theorem dX10_restsIt_57 : decode cX10_restsIt 57 = .ok (.aload_n 0, 1) := by decide +kernel
theorem dX10_restsIt_58 : decode cX10_restsIt 58 = .ok (.iload_n 1, 1) := by decide +kernel
theorem dX10_restsIt_59 : decode cX10_restsIt 59 = .ok (.invokevirtual 381, 3) := by decide +kernel
theorem dX10_restsIt_62 : decode cX10_restsIt 62 = .ok (.ireturn, 1) := by decide +kernel
theorem dX10_partsIt_0 : decode cX10_partsIt 0 = .ok (.iload_n 1, 1) := by decide +kernel
theorem dX10_partsIt_1 : decode cX10_partsIt 1 = .ok (.istore_n 2, 1) := by decide +kernel
theorem dX10_partsIt_2 : decode cX10_partsIt 2 = .ok (.aload_n 0, 1) := by decide +kernel
theorem dX10_partsIt_3 : decode cX10_partsIt 3 = .ok (.getfield 369, 3) := by decide +kernel
theorem dX10_partsIt_6 : decode cX10_partsIt 6 = .ok (.iconst 3, 1) := by decide +kernel
theorem dX10_partsIt_7 : decode cX10_partsIt 7 = .ok (.if_icmp .ne 13, 3) := by decide +kernel
theorem dX10_partsIt_10 : decode cX10_partsIt 10 = .ok (.aload_n 0, 1) := by decide +kernel
theorem dX10_partsIt_11 : decode cX10_partsIt 11 = .ok (.bipush 41, 2) := by decide +kernel
theorem dX10_partsIt_13 : decode cX10_partsIt 13 = .ok (.invokevirtual 372, 3) := by decide +kernel
theorem dX10_partsIt_16 : decode cX10_partsIt 16 = .ok (.iload_n 1, 1) := by decide +kernel
theorem dX10_partsIt_17 : decode cX10_partsIt 17 = .ok (.iconst 1, 1) := by decide +kernel
theorem dX10_partsIt_18 : decode cX10_partsIt 18 = .ok (.isub, 1) := by decide +kernel
theorem dX10_partsIt_19 : decode cX10_partsIt 19 = .ok (.istore_n 2, 1) := by decide +kernel
theorem dX10_partsIt_20 : decode cX10_partsIt 20 = .ok (.aload_n 0, 1) := by decide +kernel
theorem dX10_partsIt_21 : decode cX10_partsIt 21 = .ok (.bipush 12, 2) := by decide +kernel
theorem dX10_partsIt_23 : decode cX10_partsIt 23 = .ok (.invokevirtual 372, 3) := by decide +kernel
theorem dX10_partsIt_26 : decode cX10_partsIt 26 = .ok (.aload_n 0, 1) := by decide +kernel
theorem dX10_partsIt_27 : decode cX10_partsIt 27 = .ok (.getfield 375, 3) := by decide +kernel
theorem dX10_partsIt_30 : decode cX10_partsIt 30 = .ok (.aload_n 0, 1) := by decide +kernel
theorem dX10_partsIt_31 : decode cX10_partsIt 31 = .ok (.getfield 384, 3) := by decide +kernel
theorem dX10_partsIt_34 : decode cX10_partsIt 34 = .ok (.if_icmp .ne 10, 3) := by decide +kernel
theorem dX10_partsIt_37 : decode cX10_partsIt 37 = .ok (.aload_n 0, 1) := by decide +kernel
theorem dX10_partsIt_38 : decode cX10_partsIt 38 = .ok (.iconst 1, 1) := by decide +kernel
theorem dX10_partsIt_39 : decode cX10_partsIt 39 = .ok (.putfield 387, 3) := by decide +kernel
theorem dX10_partsIt_42 : decode cX10_partsIt 42 = .ok (.iconst 0, 1) := by decide +kernel
theorem dX10_partsIt_43 : decode cX10_partsIt 43 = .ok (.ireturn, 1) := by decide +kernel
theorem dX10_partsIt_44 : decode cX10_partsIt 44 = .ok (.iload_n 2, 1) := by decide +kernel
theorem dX10_partsIt_45 : decode cX10_partsIt 45 = .ok (.aload_n 0, 1) := by decide +kernel
theorem dX10_partsIt_46 : decode cX10_partsIt 46 = .ok (.getfield 375, 3) := by decide +kernel
theorem dX10_partsIt_49 : decode cX10_partsIt 49 = .ok (.aload_n 0, 1) := by decide +kernel
theorem dX10_partsIt_50 : decode cX10_partsIt 50 = .ok (.getfield 384, 3) := by decide +kernel
theorem dX10_partsIt_53 : decode cX10_partsIt 53 = .ok (.isub, 1) := by decide +kernel
theorem dX10_partsIt_54 : decode cX10_partsIt 54 = .ok (.idiv, 1) := by decide +kernel
theorem dX10_partsIt_55 : decode cX10_partsIt 55 = .ok (.ireturn, 1) := by decide +kernel
theorem dX10_partErrs_0 : decode cX10_partErrs 0 = .ok (.aload_n 0, 1) := by decide +kernel
theorem dX10_partErrs_1 : decode cX10_partErrs 1 = .ok (.bipush 13, 2) := by decide +kernel
theorem dX10_partErrs_3 : decode cX10_partErrs 3 = .ok (.invokevirtual 372, 3) := by decide +kernel
theorem dX10_partErrs_6 : decode cX10_partErrs 6 = .ok (.aload_n 0, 1) := by decide +kernel
theorem dX10_partErrs_7 : decode cX10_partErrs 7 = .ok (.iload_n 1, 1) := by decide +kernel
theorem dX10_partErrs_8 : decode cX10_partErrs 8 = .ok (.invokevirtual 391, 3) := by decide +kernel
theorem dX10_partErrs_11 : decode cX10_partErrs 11 = .ok (.aload_n 0, 1) := by decide +kernel
theorem dX10_partErrs_12 : decode cX10_partErrs 12 = .ok (.getfield 384, 3) := by decide +kernel
theorem dX10_partErrs_15 : decode cX10_partErrs 15 = .ok (.ixor, 1) := by decide +kernel
theorem dX10_partErrs_16 : decode cX10_partErrs 16 = .ok (.ireturn, 1) := by decide +kernel
theorem dX10_errsIt_0 : decode cX10_errsIt 0 = .ok (.aload_n 0, 1) := by decide +kernel
theorem dX10_errsIt_1 : decode cX10_errsIt 1 = .ok (.getfield 369, 3) := by decide +kernel
theorem dX10_errsIt_4 : decode cX10_errsIt 4 = .ok (.iconst 2, 1) := by decide +kernel
theorem dX10_errsIt_5 : decode cX10_errsIt 5 = .ok (.if_icmp .eq 11, 3) := by decide +kernel
theorem dX10_errsIt_8 : decode cX10_errsIt 8 = .ok (.aload_n 0, 1) := by decide +kernel
theorem dX10_errsIt_9 : decode cX10_errsIt 9 = .ok (.getfield 369, 3) := by decide +kernel
theorem dX10_errsIt_12 : decode cX10_errsIt 12 = .ok (.iconst 3, 1) := by decide +kernel
theorem dX10_errsIt_13 : decode cX10_errsIt 13 = .ok (.if_icmp .ne 17, 3) := by decide +kernel
theorem dX10_errsIt_16 : decode cX10_errsIt 16 = .ok (.aload_n 0, 1) := by decide +kernel
theorem dX10_errsIt_17 : decode cX10_errsIt 17 = .ok (.bipush 31, 2) := by decide +kernel
theorem dX10_errsIt_19 : decode cX10_errsIt 19 = .ok (.invokevirtual 372, 3) := by decide +kernel
theorem dX10_errsIt_22 : decode cX10_errsIt 22 = .ok (.aload_n 0, 1) := by decide +kernel
theorem dX10_errsIt_23 : decode cX10_errsIt 23 = .ok (.iload_n 1, 1) := by decide +kernel
theorem dX10_errsIt_24 : decode cX10_errsIt 24 = .ok (.invokevirtual 394, 3) := by decide +kernel
theorem dX10_errsIt_27 : decode cX10_errsIt 27 = .ok (.iconst 5, 1) := by decide +kernel
theorem dX10_errsIt_28 : decode cX10_errsIt 28 = .ok (.imul, 1) := by decide +kernel
theorem dX10_errsIt_29 : decode cX10_errsIt 29 = .ok (.ireturn, 1) := by decide +kernel
theorem dX10_errsIt_30 : decode cX10_errsIt 30 = .ok (.aload_n 0, 1) := by decide +kernel
theorem dX10_errsIt_31 : decode cX10_errsIt 31 = .ok (.getfield 369, 3) := by decide +kernel
theorem dX10_errsIt_34 : decode cX10_errsIt 34 = .ok (.iconst 5, 1) := by decide +kernel
theorem dX10_errsIt_35 : decode cX10_errsIt 35 = .ok (.if_icmp .ne 28, 3) := by decide +kernel
theorem dX10_errsIt_38 : decode cX10_errsIt 38 = .ok (.aload_n 0, 1) := by decide +kernel
theorem dX10_errsIt_39 : decode cX10_errsIt 39 = .ok (.bipush 60, 2) := by decide +kernel
theorem dX10_errsIt_41 : decode cX10_errsIt 41 = .ok (.invokevirtual 372, 3) := by decide +kernel
theorem dX10_errsIt_44 : decode cX10_errsIt 44 = .ok (.aload_n 0, 1) := by decide +kernel
theorem dX10_errsIt_45 : decode cX10_errsIt 45 = .ok (.iload_n 1, 1) := by decide +kernel
theorem dX10_errsIt_46 : decode cX10_errsIt 46 = .ok (.invokevirtual 394, 3) := by decide +kernel
theorem dX10_errsIt_49 : decode cX10_errsIt 49 = .ok (.istore_n 2, 1) := by decide +kernel
theorem dX10_errsIt_50 : decode cX10_errsIt 50 = .ok (.iload_n 2, 1) := by decide +kernel
theorem dX10_errsIt_51 : decode cX10_errsIt 51 = .ok (.aload_n 0, 1) := by decide +kernel
theorem dX10_errsIt_52 : decode cX10_errsIt 52 = .ok (.aload_n 0, 1) := by decide +kernel
theorem dX10_errsIt_53 : decode cX10_errsIt 53 = .ok (.getfield 384, 3) := by decide +kernel
theorem dX10_errsIt_56 : decode cX10_errsIt 56 = .ok (.iconst 1, 1) := by decide +kernel
theorem dX10_errsIt_57 : decode cX10_errsIt 57 = .ok (.iadd, 1) := by decide +kernel
theorem dX10_errsIt_58 : decode cX10_errsIt 58 = .ok (.invokevirtual 397, 3) := by decide +kernel
theorem dX10_errsIt_61 : decode cX10_errsIt 61 = .ok (.iadd, 1) := by decide +kernel
theorem dX10_errsIt_62 : decode cX10_errsIt 62 = .ok (.ireturn, 1) := by decide +kernel
theorem dX10_errsIt_63 : decode cX10_errsIt 63 = .ok (.aload_n 0, 1) := by decide +kernel
theorem dX10_errsIt_64 : decode cX10_errsIt 64 = .ok (.iload_n 1, 1) := by decide +kernel
theorem dX10_errsIt_65 : decode cX10_errsIt 65 = .ok (.invokevirtual 394, 3) := by decide +kernel
theorem dX10_errsIt_68 : decode cX10_errsIt 68 = .ok (.ireturn, 1) := by decide +kernel
theorem dX10_act_0 : decode cX10_act 0 = .ok (.aload_n 0, 1) := by decide +kernel
theorem dX10_act_1 : decode cX10_act 1 = .ok (.iconst 0, 1) := by decide +kernel
theorem dX10_act_2 : decode cX10_act 2 = .ok (.putfield 366, 3) := by decide +kernel
theorem dX10_act_5 : decode cX10_act 5 = .ok (.iload_n 1, 1) := by decide +kernel
theorem dX10_act_6 : decode cX10_act 6 = .ok (.invokestatic 118, 3) := by decide +kernel
theorem dX10_act_9 : decode cX10_act 9 = .ok (.ifCond .eq 26, 3) := by decide +kernel
theorem dX10_act_12 : decode cX10_act 12 = .ok (.iload_n 2, 1) := by decide +kernel
theorem dX10_act_13 : decode cX10_act 13 = .ok (.iconst 0, 1) := by decide +kernel
theorem dX10_act_14 : decode cX10_act 14 = .ok (.iconst 3, 1) := by decide +kernel
theorem dX10_act_15 : decode cX10_act 15 = .ok (.invokestatic 114, 3) := by decide +kernel
theorem dX10_act_18 : decode cX10_act 18 = .ok (.ifCond .eq 17, 3) := by decide +kernel
theorem dX10_act_21 : decode cX10_act 21 = .ok (.aload_n 0, 1) := by decide +kernel
theorem dX10_act_22 : decode cX10_act 22 = .ok (.iload_n 1, 1) := by decide +kernel
theorem dX10_act_23 : decode cX10_act 23 = .ok (.invokevirtual 360, 3) := by decide +kernel
theorem dX10_act_26 : decode cX10_act 26 = .ok (.iconst 1, 1) := by decide +kernel
theorem dX10_act_27 : decode cX10_act 27 = .ok (.bipush 6, 2) := by decide +kernel
theorem dX10_act_29 : decode cX10_act 29 = .ok (.invokestatic 114, 3) := by decide +kernel
theorem dX10_act_32 : decode cX10_act 32 = .ok (.ifCond .ne 5, 3) := by decide +kernel
theorem dX10_act_35 : decode cX10_act 35 = .ok (.iconst 0, 1) := by decide +kernel
theorem dX10_act_36 : decode cX10_act 36 = .ok (.ireturn, 1) := by decide +kernel
theorem dX10_act_37 : decode cX10_act 37 = .ok (.aload_n 0, 1) := by decide +kernel
theorem dX10_act_38 : decode cX10_act 38 = .ok (.aload_n 0, 1) := by decide +kernel
theorem dX10_act_39 : decode cX10_act 39 = .ok (.iload_n 1, 1) := by decide +kernel
theorem dX10_act_40 : decode cX10_act 40 = .ok (.invokevirtual 360, 3) := by decide +kernel
theorem dX10_act_43 : decode cX10_act 43 = .ok (.putfield 369, 3) := by decide +kernel
theorem dX10_act_46 : decode cX10_act 46 = .ok (.aload_n 0, 1) := by decide +kernel
theorem dX10_act_47 : decode cX10_act 47 = .ok (.aload_n 0, 1) := by decide +kernel
theorem dX10_act_48 : decode cX10_act 48 = .ok (.getfield 96, 3) := by decide +kernel
theorem dX10_act_51 : decode cX10_act 51 = .ok (.iload_n 1, 1) := by decide +kernel
theorem dX10_act_52 : decode cX10_act 52 = .ok (.iaload, 1) := by decide +kernel
theorem dX10_act_53 : decode cX10_act 53 = .ok (.putfield 384, 3) := by decide +kernel
theorem dX10_act_56 : decode cX10_act 56 = .ok (.aload_n 0, 1) := by decide +kernel
theorem dX10_act_57 : decode cX10_act 57 = .ok (.aload_n 0, 1) := by decide +kernel
theorem dX10_act_58 : decode cX10_act 58 = .ok (.aload_n 0, 1) := by decide +kernel
theorem dX10_act_59 : decode cX10_act 59 = .ok (.getfield 384, 3) := by decide +kernel
theorem dX10_act_62 : decode cX10_act 62 = .ok (.iconst 3, 1) := by decide +kernel
theorem dX10_act_63 : decode cX10_act 63 = .ok (.invokevirtual 137, 3) := by decide +kernel
theorem dX10_act_66 : decode cX10_act 66 = .ok (.putfield 375, 3) := by decide +kernel
theorem dX10_act_69 : decode cX10_act 69 = .ok (.aload_n 0, 1) := by decide +kernel
theorem dX10_act_70 : decode cX10_act 70 = .ok (.iconst 0, 1) := by decide +kernel
theorem dX10_act_71 : decode cX10_act 71 = .ok (.putfield 387, 3) := by decide +kernel
theorem dX10_act_74 : decode cX10_act 74 = .ok (.iload_n 2, 1) := by decide +kernel
theorem dX10_act_75 : decode cX10_act 75 = .ok (.ifCond .ne 11, 3) := by decide +kernel
theorem dX10_act_78 : decode cX10_act 78 = .ok (.aload_n 0, 1) := by decide +kernel
theorem dX10_act_79 : decode cX10_act 79 = .ok (.iload_n 3, 1) := by decide +kernel
theorem dX10_act_80 : decode cX10_act 80 = .ok (.invokevirtual 378, 3) := by decide +kernel
theorem dX10_act_83 : decode cX10_act 83 = .ok (.goto 34, 3) := by decide +kernel
theorem dX10_act_86 : decode cX10_act 86 = .ok (.iload_n 2, 1) := by decide +kernel
theorem dX10_act_87 : decode cX10_act 87 = .ok (.iconst 1, 1) := by decide +kernel
theorem dX10_act_88 : decode cX10_act 88 = .ok (.if_icmp .ne 11, 3) := by decide +kernel
theorem dX10_act_91 : decode cX10_act 91 = .ok (.aload_n 0, 1) := by decide +kernel
theorem dX10_act_92 : decode cX10_act 92 = .ok (.iload_n 3, 1) := by decide +kernel
theorem dX10_act_93 : decode cX10_act 93 = .ok (.invokevirtual 391, 3) := by decide +kernel
theorem dX10_act_96 : decode cX10_act 96 = .ok (.goto 21, 3) := by decide +kernel
theorem dX10_act_99 : decode cX10_act 99 = .ok (.iload_n 2, 1) := by decide +kernel
theorem dX10_act_100 : decode cX10_act 100 = .ok (.iconst 2, 1) := by decide +kernel
theorem dX10_act_101 : decode cX10_act 101 = .ok (.if_icmp .ne 11, 3) := by decide +kernel
theorem dX10_act_104 : decode cX10_act 104 = .ok (.aload_n 0, 1) := by decide +kernel
theorem dX10_act_105 : decode cX10_act 105 = .ok (.iload_n 3, 1) := by decide +kernel
theorem dX10_act_106 : decode cX10_act 106 = .ok (.invokevirtual 397, 3) := by decide +kernel
theorem dX10_act_109 : decode cX10_act 109 = .ok (.goto 8, 3) := by decide +kernel
theorem dX10_act_112 : decode cX10_act 112 = .ok (.aload_n 0, 1) := by decide +kernel
theorem dX10_act_113 : decode cX10_act 113 = .ok (.iload_n 3, 1) := by decide +kernel
theorem dX10_act_114 : decode cX10_act 114 = .ok (.invokevirtual 400, 3) := by decide +kernel
theorem dX10_act_117 : decode cX10_act 117 = .ok (.istore 4, 2) := by decide +kernel
theorem dX10_act_119 : decode cX10_act 119 = .ok (.aload_n 0, 1) := by decide +kernel
theorem dX10_act_120 : decode cX10_act 120 = .ok (.getfield 387, 3) := by decide +kernel
theorem dX10_act_123 : decode cX10_act 123 = .ok (.ifCond .eq 8, 3) := by decide +kernel
theorem dX10_act_126 : decode cX10_act 126 = .ok (.bipush (-15), 2) := by decide +kernel
theorem dX10_act_128 : decode cX10_act 128 = .ok (.goto 5, 3) := by decide +kernel
theorem dX10_act_131 : decode cX10_act 131 = .ok (.iload 4, 2) := by decide +kernel
theorem dX10_act_133 : decode cX10_act 133 = .ok (.ireturn, 1) := by decide +kernel
theorem dX10_trace_0 : decode cX10_trace 0 = .ok (.iload_n 1, 1) := by decide +kernel
theorem dX10_trace_1 : decode cX10_trace 1 = .ok (.iconst 0, 1) := by decide +kernel
theorem dX10_trace_2 : decode cX10_trace 2 = .ok (.aload_n 0, 1) := by decide +kernel
theorem dX10_trace_3 : decode cX10_trace 3 = .ok (.getfield 366, 3) := by decide +kernel
theorem dX10_trace_6 : decode cX10_trace 6 = .ok (.iconst 1, 1) := by decide +kernel
theorem dX10_trace_7 : decode cX10_trace 7 = .ok (.isub, 1) := by decide +kernel
theorem dX10_trace_8 : decode cX10_trace 8 = .ok (.invokestatic 114, 3) := by decide +kernel
theorem dX10_trace_11 : decode cX10_trace 11 = .ok (.ifCond .eq 12, 3) := by decide +kernel
theorem dX10_trace_14 : decode cX10_trace 14 = .ok (.aload_n 0, 1) := by decide +kernel
theorem dX10_trace_15 : decode cX10_trace 15 = .ok (.getfield 102, 3) := by decide +kernel
theorem dX10_trace_18 : decode cX10_trace 18 = .ok (.iload_n 1, 1) := by decide +kernel
theorem dX10_trace_19 : decode cX10_trace 19 = .ok (.iaload, 1) := by decide +kernel
theorem dX10_trace_20 : decode cX10_trace 20 = .ok (.goto 5, 3) := by decide +kernel
theorem dX10_trace_23 : decode cX10_trace 23 = .ok (.bipush (-3), 2) := by decide +kernel
theorem dX10_trace_25 : decode cX10_trace 25 = .ok (.ireturn, 1) := by decide +kernel
theorem dX10_many_0 : decode cX10_many 0 = .ok (.iload_n 1, 1) := by decide +kernel
theorem dX10_many_1 : decode cX10_many 1 = .ok (.tableswitch 146 0 10 #[59, 64, 69, 74, 79, 84, 89, 94, 99, 104, 109], 59) := by decide +kernel
theorem dX10_many_60 : decode cX10_many 60 = .ok (.aload_n 0, 1) := by decide +kernel
theorem dX10_many_61 : decode cX10_many 61 = .ok (.getfield 111, 3) := by decide +kernel
theorem dX10_many_64 : decode cX10_many 64 = .ok (.ireturn, 1) := by decide +kernel
theorem dX10_many_65 : decode cX10_many 65 = .ok (.aload_n 0, 1) := by decide +kernel
theorem dX10_many_66 : decode cX10_many 66 = .ok (.getfield 128, 3) := by decide +kernel
theorem dX10_many_69 : decode cX10_many 69 = .ok (.ireturn, 1) := by decide +kernel
theorem dX10_many_70 : decode cX10_many 70 = .ok (.aload_n 0, 1) := by decide +kernel
theorem dX10_many_71 : decode cX10_many 71 = .ok (.getfield 296, 3) := by decide +kernel
theorem dX10_many_74 : decode cX10_many 74 = .ok (.ireturn, 1) := by decide +kernel
theorem dX10_many_75 : decode cX10_many 75 = .ok (.aload_n 0, 1) := by decide +kernel
theorem dX10_many_76 : decode cX10_many 76 = .ok (.invokevirtual 318, 3) := by decide +kernel
theorem dX10_many_79 : decode cX10_many 79 = .ok (.ireturn, 1) := by decide +kernel
theorem dX10_many_80 : decode cX10_many 80 = .ok (.aload_n 0, 1) := by decide +kernel
theorem dX10_many_81 : decode cX10_many 81 = .ok (.getfield 153, 3) := by decide +kernel
theorem dX10_many_84 : decode cX10_many 84 = .ok (.ireturn, 1) := by decide +kernel
theorem dX10_many_85 : decode cX10_many 85 = .ok (.aload_n 0, 1) := by decide +kernel
theorem dX10_many_86 : decode cX10_many 86 = .ok (.getfield 340, 3) := by decide +kernel
theorem dX10_many_89 : decode cX10_many 89 = .ok (.ireturn, 1) := by decide +kernel
theorem dX10_many_90 : decode cX10_many 90 = .ok (.aload_n 0, 1) := by decide +kernel
theorem dX10_many_91 : decode cX10_many 91 = .ok (.getfield 191, 3) := by decide +kernel
theorem dX10_many_94 : decode cX10_many 94 = .ok (.ireturn, 1) := by decide +kernel
theorem dX10_many_95 : decode cX10_many 95 = .ok (.aload_n 0, 1) := by decide +kernel
theorem dX10_many_96 : decode cX10_many 96 = .ok (.getfield 366, 3) := by decide +kernel
theorem dX10_many_99 : decode cX10_many 99 = .ok (.ireturn, 1) := by decide +kernel
theorem dX10_many_100 : decode cX10_many 100 = .ok (.aload_n 0, 1) := by decide +kernel
theorem dX10_many_101 : decode cX10_many 101 = .ok (.getfield 7, 3) := by decide +kernel
theorem dX10_many_104 : decode cX10_many 104 = .ok (.ireturn, 1) := by decide +kernel
theorem dX10_many_105 : decode cX10_many 105 = .ok (.aload_n 0, 1) := by decide +kernel
theorem dX10_many_106 : decode cX10_many 106 = .ok (.getfield 159, 3) := by decide +kernel
theorem dX10_many_109 : decode cX10_many 109 = .ok (.ireturn, 1) := by decide +kernel
theorem dX10_many_110 : decode cX10_many 110 = .ok (.iconst 0, 1) := by decide +kernel
theorem dX10_many_111 : decode cX10_many 111 = .ok (.istore_n 2, 1) := by decide +kernel
theorem dX10_many_112 : decode cX10_many 112 = .ok (.iconst 0, 1) := by decide +kernel
theorem dX10_many_113 : decode cX10_many 113 = .ok (.istore_n 3, 1) := by decide +kernel
theorem dX10_many_114 : decode cX10_many 114 = .ok (.iload_n 3, 1) := by decide +kernel
theorem dX10_many_115 : decode cX10_many 115 = .ok (.aload_n 0, 1) := by decide +kernel
theorem dX10_many_116 : decode cX10_many 116 = .ok (.getfield 111, 3) := by decide +kernel
theorem dX10_many_119 : decode cX10_many 119 = .ok (.if_icmp .ge 26, 3) := by decide +kernel
theorem dX10_many_122 : decode cX10_many 122 = .ok (.iload_n 2, 1) := by decide +kernel
theorem dX10_many_123 : decode cX10_many 123 = .ok (.aload_n 0, 1) := by decide +kernel
theorem dX10_many_124 : decode cX10_many 124 = .ok (.iload_n 3, 1) := by decide +kernel
theorem dX10_many_125 : decode cX10_many 125 = .ok (.iconst 4, 1) := by decide +kernel
theorem dX10_many_126 : decode cX10_many 126 = .ok (.invokevirtual 137, 3) := by decide +kernel
theorem dX10_many_129 : decode cX10_many 129 = .ok (.ifCond .le 7, 3) := by decide +kernel
theorem dX10_many_132 : decode cX10_many 132 = .ok (.iconst 1, 1) := by decide +kernel
theorem dX10_many_133 : decode cX10_many 133 = .ok (.goto 4, 3) := by decide +kernel
theorem dX10_many_136 : decode cX10_many 136 = .ok (.iconst 0, 1) := by decide +kernel
theorem dX10_many_137 : decode cX10_many 137 = .ok (.iadd, 1) := by decide +kernel
theorem dX10_many_138 : decode cX10_many 138 = .ok (.istore_n 2, 1) := by decide +kernel
theorem dX10_many_139 : decode cX10_many 139 = .ok (.iinc 3 1, 3) := by decide +kernel
theorem dX10_many_142 : decode cX10_many 142 = .ok (.goto (-28), 3) := by decide +kernel
theorem dX10_many_145 : decode cX10_many 145 = .ok (.iload_n 2, 1) := by decide +kernel
theorem dX10_many_146 : decode cX10_many 146 = .ok (.ireturn, 1) := by decide +kernel
theorem dX10_many_147 : decode cX10_many 147 = .ok (.iconst (-1), 1) := by decide +kernel
theorem dX10_many_148 : decode cX10_many 148 = .ok (.ireturn, 1) := by decide +kernel
theorem dX10_move_0 : decode cX10_move 0 = .ok (.iconst 0, 1) := by decide +kernel
theorem dX10_move_1 : decode cX10_move 1 = .ok (.istore 4, 2) := by decide +kernel
theorem dX10_move_3 : decode cX10_move 3 = .ok (.iload 4, 2) := by decide +kernel
theorem dX10_move_5 : decode cX10_move 5 = .ok (.iload_n 2, 1) := by decide +kernel
theorem dX10_move_6 : decode cX10_move 6 = .ok (.if_icmp .ge 52, 3) := by decide +kernel
theorem dX10_move_9 : decode cX10_move 9 = .ok (.iload_n 3, 1) := by decide +kernel
theorem dX10_move_10 : decode cX10_move 10 = .ok (.ifCond .eq 19, 3) := by decide +kernel
theorem dX10_move_13 : decode cX10_move 13 = .ok (.aload_n 0, 1) := by decide +kernel
theorem dX10_move_14 : decode cX10_move 14 = .ok (.getfield 105, 3) := by decide +kernel
theorem dX10_move_17 : decode cX10_move 17 = .ok (.aload_n 0, 1) := by decide +kernel
theorem dX10_move_18 : decode cX10_move 18 = .ok (.getfield 403, 3) := by decide +kernel
theorem dX10_move_21 : decode cX10_move 21 = .ok (.aload_n 1, 1) := by decide +kernel
theorem dX10_move_22 : decode cX10_move 22 = .ok (.iload 4, 2) := by decide +kernel
theorem dX10_move_24 : decode cX10_move 24 = .ok (.iaload, 1) := by decide +kernel
theorem dX10_move_25 : decode cX10_move 25 = .ok (.iastore, 1) := by decide +kernel
theorem dX10_move_26 : decode cX10_move 26 = .ok (.goto 16, 3) := by decide +kernel
theorem dX10_move_29 : decode cX10_move 29 = .ok (.aload_n 1, 1) := by decide +kernel
theorem dX10_move_30 : decode cX10_move 30 = .ok (.iload 4, 2) := by decide +kernel
theorem dX10_move_32 : decode cX10_move 32 = .ok (.aload_n 0, 1) := by decide +kernel
theorem dX10_move_33 : decode cX10_move 33 = .ok (.getfield 105, 3) := by decide +kernel
theorem dX10_move_36 : decode cX10_move 36 = .ok (.aload_n 0, 1) := by decide +kernel
theorem dX10_move_37 : decode cX10_move 37 = .ok (.getfield 403, 3) := by decide +kernel
theorem dX10_move_40 : decode cX10_move 40 = .ok (.iaload, 1) := by decide +kernel
theorem dX10_move_41 : decode cX10_move 41 = .ok (.iastore, 1) := by decide +kernel
theorem dX10_move_42 : decode cX10_move 42 = .ok (.aload_n 0, 1) := by decide +kernel
theorem dX10_move_43 : decode cX10_move 43 = .ok (.dup, 1) := by decide +kernel
theorem dX10_move_44 : decode cX10_move 44 = .ok (.getfield 403, 3) := by decide +kernel
theorem dX10_move_47 : decode cX10_move 47 = .ok (.iconst 1, 1) := by decide +kernel
theorem dX10_move_48 : decode cX10_move 48 = .ok (.iadd, 1) := by decide +kernel
theorem dX10_move_49 : decode cX10_move 49 = .ok (.putfield 403, 3) := by decide +kernel
theorem dX10_move_52 : decode cX10_move 52 = .ok (.iinc 4 1, 3) := by decide +kernel
theorem dX10_move_55 : decode cX10_move 55 = .ok (.goto (-52), 3) := by decide +kernel
theorem dX10_move_58 : decode cX10_move 58 = .ok (.return_, 1) := by decide +kernel
theorem dX10_moveAll_0 : decode cX10_moveAll 0 = .ok (.aload_n 0, 1) := by decide +kernel
theorem dX10_moveAll_1 : decode cX10_moveAll 1 = .ok (.iconst 0, 1) := by decide +kernel
theorem dX10_moveAll_2 : decode cX10_moveAll 2 = .ok (.putfield 403, 3) := by decide +kernel
theorem dX10_moveAll_5 : decode cX10_moveAll 5 = .ok (.aload_n 0, 1) := by decide +kernel
theorem dX10_moveAll_6 : decode cX10_moveAll 6 = .ok (.getfield 108, 3) := by decide +kernel
theorem dX10_moveAll_9 : decode cX10_moveAll 9 = .ok (.iconst 0, 1) := by decide +kernel
theorem dX10_moveAll_10 : decode cX10_moveAll 10 = .ok (.aload_n 0, 1) := by decide +kernel
theorem dX10_moveAll_11 : decode cX10_moveAll 11 = .ok (.getfield 7, 3) := by decide +kernel
theorem dX10_moveAll_14 : decode cX10_moveAll 14 = .ok (.iastore, 1) := by decide +kernel
theorem dX10_moveAll_15 : decode cX10_moveAll 15 = .ok (.aload_n 0, 1) := by decide +kernel
theorem dX10_moveAll_16 : decode cX10_moveAll 16 = .ok (.getfield 108, 3) := by decide +kernel
theorem dX10_moveAll_19 : decode cX10_moveAll 19 = .ok (.iconst 1, 1) := by decide +kernel
theorem dX10_moveAll_20 : decode cX10_moveAll 20 = .ok (.aload_n 0, 1) := by decide +kernel
theorem dX10_moveAll_21 : decode cX10_moveAll 21 = .ok (.getfield 159, 3) := by decide +kernel
theorem dX10_moveAll_24 : decode cX10_moveAll 24 = .ok (.iastore, 1) := by decide +kernel
theorem dX10_moveAll_25 : decode cX10_moveAll 25 = .ok (.aload_n 0, 1) := by decide +kernel
theorem dX10_moveAll_26 : decode cX10_moveAll 26 = .ok (.getfield 108, 3) := by decide +kernel
theorem dX10_moveAll_29 : decode cX10_moveAll 29 = .ok (.iconst 2, 1) := by decide +kernel
theorem dX10_moveAll_30 : decode cX10_moveAll 30 = .ok (.aload_n 0, 1) := by decide +kernel
theorem dX10_moveAll_31 : decode cX10_moveAll 31 = .ok (.getfield 128, 3) := by decide +kernel
theorem dX10_moveAll_34 : decode cX10_moveAll 34 = .ok (.iastore, 1) := by decide +kernel
theorem dX10_moveAll_35 : decode cX10_moveAll 35 = .ok (.aload_n 0, 1) := by decide +kernel
theorem dX10_moveAll_36 : decode cX10_moveAll 36 = .ok (.getfield 108, 3) := by decide +kernel
theorem dX10_moveAll_39 : decode cX10_moveAll 39 = .ok (.iconst 3, 1) := by decide +kernel
theorem dX10_moveAll_40 : decode cX10_moveAll 40 = .ok (.aload_n 0, 1) := by decide +kernel
theorem dX10_moveAll_41 : decode cX10_moveAll 41 = .ok (.getfield 111, 3) := by decide +kernel
theorem dX10_moveAll_44 : decode cX10_moveAll 44 = .ok (.iastore, 1) := by decide +kernel
theorem dX10_moveAll_45 : decode cX10_moveAll 45 = .ok (.aload_n 0, 1) := by decide +kernel
theorem dX10_moveAll_46 : decode cX10_moveAll 46 = .ok (.getfield 108, 3) := by decide +kernel
theorem dX10_moveAll_49 : decode cX10_moveAll 49 = .ok (.iconst 4, 1) := by decide +kernel
theorem dX10_moveAll_50 : decode cX10_moveAll 50 = .ok (.aload_n 0, 1) := by decide +kernel
theorem dX10_moveAll_51 : decode cX10_moveAll 51 = .ok (.getfield 153, 3) := by decide +kernel
theorem dX10_moveAll_54 : decode cX10_moveAll 54 = .ok (.iastore, 1) := by decide +kernel
theorem dX10_moveAll_55 : decode cX10_moveAll 55 = .ok (.aload_n 0, 1) := by decide +kernel
theorem dX10_moveAll_56 : decode cX10_moveAll 56 = .ok (.getfield 108, 3) := by decide +kernel
theorem dX10_moveAll_59 : decode cX10_moveAll 59 = .ok (.iconst 5, 1) := by decide +kernel
theorem dX10_moveAll_60 : decode cX10_moveAll 60 = .ok (.aload_n 0, 1) := by decide +kernel
theorem dX10_moveAll_61 : decode cX10_moveAll 61 = .ok (.getfield 296, 3) := by decide +kernel
theorem dX10_moveAll_64 : decode cX10_moveAll 64 = .ok (.iastore, 1) := by decide +kernel
theorem dX10_moveAll_65 : decode cX10_moveAll 65 = .ok (.aload_n 0, 1) := by decide +kernel
theorem dX10_moveAll_66 : decode cX10_moveAll 66 = .ok (.aload_n 0, 1) := by decide +kernel
theorem dX10_moveAll_67 : decode cX10_moveAll 67 = .ok (.getfield 108, 3) := by decide +kernel
theorem dX10_moveAll_70 : decode cX10_moveAll 70 = .ok (.bipush 6, 2) := by decide +kernel
theorem dX10_moveAll_72 : decode cX10_moveAll 72 = .ok (.iload_n 1, 1) := by decide +kernel
theorem dX10_moveAll_73 : decode cX10_moveAll 73 = .ok (.invokevirtual 406, 3) := by decide +kernel
theorem dX10_moveAll_76 : decode cX10_moveAll 76 = .ok (.aload_n 0, 1) := by decide +kernel
theorem dX10_moveAll_77 : decode cX10_moveAll 77 = .ok (.aload_n 0, 1) := by decide +kernel
theorem dX10_moveAll_78 : decode cX10_moveAll 78 = .ok (.getfield 13, 3) := by decide +kernel
theorem dX10_moveAll_81 : decode cX10_moveAll 81 = .ok (.bipush 84, 2) := by decide +kernel
theorem dX10_moveAll_83 : decode cX10_moveAll 83 = .ok (.iload_n 1, 1) := by decide +kernel
theorem dX10_moveAll_84 : decode cX10_moveAll 84 = .ok (.invokevirtual 406, 3) := by decide +kernel
theorem dX10_moveAll_87 : decode cX10_moveAll 87 = .ok (.aload_n 0, 1) := by decide +kernel
theorem dX10_moveAll_88 : decode cX10_moveAll 88 = .ok (.aload_n 0, 1) := by decide +kernel
theorem dX10_moveAll_89 : decode cX10_moveAll 89 = .ok (.getfield 17, 3) := by decide +kernel
theorem dX10_moveAll_92 : decode cX10_moveAll 92 = .ok (.bipush 100, 2) := by decide +kernel
theorem dX10_moveAll_94 : decode cX10_moveAll 94 = .ok (.iload_n 1, 1) := by decide +kernel
theorem dX10_moveAll_95 : decode cX10_moveAll 95 = .ok (.invokevirtual 406, 3) := by decide +kernel
theorem dX10_moveAll_98 : decode cX10_moveAll 98 = .ok (.aload_n 0, 1) := by decide +kernel
theorem dX10_moveAll_99 : decode cX10_moveAll 99 = .ok (.aload_n 0, 1) := by decide +kernel
theorem dX10_moveAll_100 : decode cX10_moveAll 100 = .ok (.getfield 20, 3) := by decide +kernel
theorem dX10_moveAll_103 : decode cX10_moveAll 103 = .ok (.bipush 20, 2) := by decide +kernel
theorem dX10_moveAll_105 : decode cX10_moveAll 105 = .ok (.iload_n 1, 1) := by decide +kernel
theorem dX10_moveAll_106 : decode cX10_moveAll 106 = .ok (.invokevirtual 406, 3) := by decide +kernel
theorem dX10_moveAll_109 : decode cX10_moveAll 109 = .ok (.aload_n 0, 1) := by decide +kernel
theorem dX10_moveAll_110 : decode cX10_moveAll 110 = .ok (.aload_n 0, 1) := by decide +kernel
theorem dX10_moveAll_111 : decode cX10_moveAll 111 = .ok (.getfield 23, 3) := by decide +kernel
theorem dX10_moveAll_114 : decode cX10_moveAll 114 = .ok (.bipush 12, 2) := by decide +kernel
theorem dX10_moveAll_116 : decode cX10_moveAll 116 = .ok (.iload_n 1, 1) := by decide +kernel
theorem dX10_moveAll_117 : decode cX10_moveAll 117 = .ok (.invokevirtual 406, 3) := by decide +kernel
theorem dX10_moveAll_120 : decode cX10_moveAll 120 = .ok (.aload_n 0, 1) := by decide +kernel
theorem dX10_moveAll_121 : decode cX10_moveAll 121 = .ok (.aload_n 0, 1) := by decide +kernel
theorem dX10_moveAll_122 : decode cX10_moveAll 122 = .ok (.getfield 26, 3) := by decide +kernel
theorem dX10_moveAll_125 : decode cX10_moveAll 125 = .ok (.iconst 3, 1) := by decide +kernel
theorem dX10_moveAll_126 : decode cX10_moveAll 126 = .ok (.iload_n 1, 1) := by decide +kernel
theorem dX10_moveAll_127 : decode cX10_moveAll 127 = .ok (.invokevirtual 406, 3) := by decide +kernel
theorem dX10_moveAll_130 : decode cX10_moveAll 130 = .ok (.aload_n 0, 1) := by decide +kernel
theorem dX10_moveAll_131 : decode cX10_moveAll 131 = .ok (.aload_n 0, 1) := by decide +kernel
theorem dX10_moveAll_132 : decode cX10_moveAll 132 = .ok (.getfield 29, 3) := by decide +kernel
theorem dX10_moveAll_135 : decode cX10_moveAll 135 = .ok (.bipush 8, 2) := by decide +kernel
theorem dX10_moveAll_137 : decode cX10_moveAll 137 = .ok (.iload_n 1, 1) := by decide +kernel
theorem dX10_moveAll_138 : decode cX10_moveAll 138 = .ok (.invokevirtual 406, 3) := by decide +kernel
theorem dX10_moveAll_141 : decode cX10_moveAll 141 = .ok (.aload_n 0, 1) := by decide +kernel
theorem dX10_moveAll_142 : decode cX10_moveAll 142 = .ok (.aload_n 0, 1) := by decide +kernel
theorem dX10_moveAll_143 : decode cX10_moveAll 143 = .ok (.getfield 32, 3) := by decide +kernel
theorem dX10_moveAll_146 : decode cX10_moveAll 146 = .ok (.sipush 230, 3) := by decide +kernel
theorem dX10_moveAll_149 : decode cX10_moveAll 149 = .ok (.iload_n 1, 1) := by decide +kernel
theorem dX10_moveAll_150 : decode cX10_moveAll 150 = .ok (.invokevirtual 406, 3) := by decide +kernel
theorem dX10_moveAll_153 : decode cX10_moveAll 153 = .ok (.return_, 1) := by decide +kernel
theorem dX10_keep_0 : decode cX10_keep 0 = .ok (.aload_n 0, 1) := by decide +kernel
theorem dX10_keep_1 : decode cX10_keep 1 = .ok (.iconst 1, 1) := by decide +kernel
theorem dX10_keep_2 : decode cX10_keep 2 = .ok (.invokevirtual 410, 3) := by decide +kernel
theorem dX10_keep_5 : decode cX10_keep 5 = .ok (.aload_n 0, 1) := by decide +kernel
theorem dX10_keep_6 : decode cX10_keep 6 = .ok (.iconst 1, 1) := by decide +kernel
theorem dX10_keep_7 : decode cX10_keep 7 = .ok (.putfield 413, 3) := by decide +kernel
theorem dX10_keep_10 : decode cX10_keep 10 = .ok (.iconst 1, 1) := by decide +kernel
theorem dX10_keep_11 : decode cX10_keep 11 = .ok (.ireturn, 1) := by decide +kernel
theorem dX10_again_0 : decode cX10_again 0 = .ok (.aload_n 0, 1) := by decide +kernel
theorem dX10_again_1 : decode cX10_again 1 = .ok (.getfield 413, 3) := by decide +kernel
theorem dX10_again_4 : decode cX10_again 4 = .ok (.ifCond .ne 6, 3) := by decide +kernel
theorem dX10_again_7 : decode cX10_again 7 = .ok (.bipush (-3), 2) := by decide +kernel
theorem dX10_again_9 : decode cX10_again 9 = .ok (.ireturn, 1) := by decide +kernel
theorem dX10_again_10 : decode cX10_again 10 = .ok (.aload_n 0, 1) := by decide +kernel
theorem dX10_again_11 : decode cX10_again 11 = .ok (.iconst 0, 1) := by decide +kernel
theorem dX10_again_12 : decode cX10_again 12 = .ok (.invokevirtual 410, 3) := by decide +kernel
theorem dX10_again_15 : decode cX10_again 15 = .ok (.aload_n 0, 1) := by decide +kernel
theorem dX10_again_16 : decode cX10_again 16 = .ok (.aload_n 0, 1) := by decide +kernel
theorem dX10_again_17 : decode cX10_again 17 = .ok (.getfield 108, 3) := by decide +kernel
theorem dX10_again_20 : decode cX10_again 20 = .ok (.iconst 0, 1) := by decide +kernel
theorem dX10_again_21 : decode cX10_again 21 = .ok (.iaload, 1) := by decide +kernel
theorem dX10_again_22 : decode cX10_again 22 = .ok (.putfield 7, 3) := by decide +kernel
theorem dX10_again_25 : decode cX10_again 25 = .ok (.aload_n 0, 1) := by decide +kernel
theorem dX10_again_26 : decode cX10_again 26 = .ok (.aload_n 0, 1) := by decide +kernel
theorem dX10_again_27 : decode cX10_again 27 = .ok (.getfield 108, 3) := by decide +kernel
theorem dX10_again_30 : decode cX10_again 30 = .ok (.iconst 1, 1) := by decide +kernel
theorem dX10_again_31 : decode cX10_again 31 = .ok (.iaload, 1) := by decide +kernel
theorem dX10_again_32 : decode cX10_again 32 = .ok (.putfield 159, 3) := by decide +kernel
theorem dX10_again_35 : decode cX10_again 35 = .ok (.aload_n 0, 1) := by decide +kernel
theorem dX10_again_36 : decode cX10_again 36 = .ok (.aload_n 0, 1) := by decide +kernel
theorem dX10_again_37 : decode cX10_again 37 = .ok (.getfield 108, 3) := by decide +kernel
theorem dX10_again_40 : decode cX10_again 40 = .ok (.iconst 2, 1) := by decide +kernel
theorem dX10_again_41 : decode cX10_again 41 = .ok (.iaload, 1) := by decide +kernel
theorem dX10_again_42 : decode cX10_again 42 = .ok (.putfield 128, 3) := by decide +kernel
theorem dX10_again_45 : decode cX10_again 45 = .ok (.aload_n 0, 1) := by decide +kernel
theorem dX10_again_46 : decode cX10_again 46 = .ok (.aload_n 0, 1) := by decide +kernel
theorem dX10_again_47 : decode cX10_again 47 = .ok (.getfield 108, 3) := by decide +kernel
theorem dX10_again_50 : decode cX10_again 50 = .ok (.iconst 3, 1) := by decide +kernel
theorem dX10_again_51 : decode cX10_again 51 = .ok (.iaload, 1) := by decide +kernel
theorem dX10_again_52 : decode cX10_again 52 = .ok (.putfield 111, 3) := by decide +kernel
theorem dX10_again_55 : decode cX10_again 55 = .ok (.aload_n 0, 1) := by decide +kernel
theorem dX10_again_56 : decode cX10_again 56 = .ok (.aload_n 0, 1) := by decide +kernel
theorem dX10_again_57 : decode cX10_again 57 = .ok (.getfield 108, 3) := by decide +kernel
theorem dX10_again_60 : decode cX10_again 60 = .ok (.iconst 4, 1) := by decide +kernel
theorem dX10_again_61 : decode cX10_again 61 = .ok (.iaload, 1) := by decide +kernel
theorem dX10_again_62 : decode cX10_again 62 = .ok (.putfield 153, 3) := by decide +kernel
theorem dX10_again_65 : decode cX10_again 65 = .ok (.aload_n 0, 1) := by decide +kernel
theorem dX10_again_66 : decode cX10_again 66 = .ok (.aload_n 0, 1) := by decide +kernel
theorem dX10_again_67 : decode cX10_again 67 = .ok (.getfield 108, 3) := by decide +kernel
theorem dX10_again_70 : decode cX10_again 70 = .ok (.iconst 5, 1) := by decide +kernel
theorem dX10_again_71 : decode cX10_again 71 = .ok (.iaload, 1) := by decide +kernel
theorem dX10_again_72 : decode cX10_again 72 = .ok (.putfield 296, 3) := by decide +kernel
theorem dX10_again_75 : decode cX10_again 75 = .ok (.iconst 1, 1) := by decide +kernel
theorem dX10_again_76 : decode cX10_again 76 = .ok (.ireturn, 1) := by decide +kernel
theorem dJ6_numberOfTrailingZeros_0f7a4_0 : decode cJ6_numberOfTrailingZeros_0f7a4 0 = .ok (.iload_n 0, 1) := by decide +kernel
theorem dJ6_numberOfTrailingZeros_0f7a4_1 : decode cJ6_numberOfTrailingZeros_0f7a4 1 = .ok (.iconst (-1), 1) := by decide +kernel
theorem dJ6_numberOfTrailingZeros_0f7a4_2 : decode cJ6_numberOfTrailingZeros_0f7a4 2 = .ok (.ixor, 1) := by decide +kernel
theorem dJ6_numberOfTrailingZeros_0f7a4_3 : decode cJ6_numberOfTrailingZeros_0f7a4 3 = .ok (.iload_n 0, 1) := by decide +kernel
theorem dJ6_numberOfTrailingZeros_0f7a4_4 : decode cJ6_numberOfTrailingZeros_0f7a4 4 = .ok (.iconst 1, 1) := by decide +kernel
theorem dJ6_numberOfTrailingZeros_0f7a4_5 : decode cJ6_numberOfTrailingZeros_0f7a4 5 = .ok (.isub, 1) := by decide +kernel
theorem dJ6_numberOfTrailingZeros_0f7a4_6 : decode cJ6_numberOfTrailingZeros_0f7a4 6 = .ok (.iand, 1) := by decide +kernel
theorem dJ6_numberOfTrailingZeros_0f7a4_7 : decode cJ6_numberOfTrailingZeros_0f7a4 7 = .ok (.istore_n 0, 1) := by decide +kernel
theorem dJ6_numberOfTrailingZeros_0f7a4_8 : decode cJ6_numberOfTrailingZeros_0f7a4 8 = .ok (.iload_n 0, 1) := by decide +kernel
theorem dJ6_numberOfTrailingZeros_0f7a4_9 : decode cJ6_numberOfTrailingZeros_0f7a4 9 = .ok (.ifCond .gt 8, 3) := by decide +kernel
theorem dJ6_numberOfTrailingZeros_0f7a4_12 : decode cJ6_numberOfTrailingZeros_0f7a4 12 = .ok (.iload_n 0, 1) := by decide +kernel
theorem dJ6_numberOfTrailingZeros_0f7a4_13 : decode cJ6_numberOfTrailingZeros_0f7a4 13 = .ok (.bipush 32, 2) := by decide +kernel
theorem dJ6_numberOfTrailingZeros_0f7a4_15 : decode cJ6_numberOfTrailingZeros_0f7a4 15 = .ok (.iand, 1) := by decide +kernel
theorem dJ6_numberOfTrailingZeros_0f7a4_16 : decode cJ6_numberOfTrailingZeros_0f7a4 16 = .ok (.ireturn, 1) := by decide +kernel
theorem dJ6_numberOfTrailingZeros_0f7a4_17 : decode cJ6_numberOfTrailingZeros_0f7a4 17 = .ok (.iconst 1, 1) := by decide +kernel
theorem dJ6_numberOfTrailingZeros_0f7a4_18 : decode cJ6_numberOfTrailingZeros_0f7a4 18 = .ok (.istore_n 1, 1) := by decide +kernel
theorem dJ6_numberOfTrailingZeros_0f7a4_19 : decode cJ6_numberOfTrailingZeros_0f7a4 19 = .ok (.iload_n 0, 1) := by decide +kernel
theorem dJ6_numberOfTrailingZeros_0f7a4_20 : decode cJ6_numberOfTrailingZeros_0f7a4 20 = .ok (.ldc_w 264, 3) := by decide +kernel
theorem dJ6_numberOfTrailingZeros_0f7a4_23 : decode cJ6_numberOfTrailingZeros_0f7a4 23 = .ok (.if_icmp .le 11, 3) := by decide +kernel
theorem dJ6_numberOfTrailingZeros_0f7a4_26 : decode cJ6_numberOfTrailingZeros_0f7a4 26 = .ok (.iinc 1 16, 3) := by decide +kernel
theorem dJ6_numberOfTrailingZeros_0f7a4_29 : decode cJ6_numberOfTrailingZeros_0f7a4 29 = .ok (.iload_n 0, 1) := by decide +kernel
theorem dJ6_numberOfTrailingZeros_0f7a4_30 : decode cJ6_numberOfTrailingZeros_0f7a4 30 = .ok (.bipush 16, 2) := by decide +kernel
theorem dJ6_numberOfTrailingZeros_0f7a4_32 : decode cJ6_numberOfTrailingZeros_0f7a4 32 = .ok (.iushr, 1) := by decide +kernel
theorem dJ6_numberOfTrailingZeros_0f7a4_33 : decode cJ6_numberOfTrailingZeros_0f7a4 33 = .ok (.istore_n 0, 1) := by decide +kernel
theorem dJ6_numberOfTrailingZeros_0f7a4_34 : decode cJ6_numberOfTrailingZeros_0f7a4 34 = .ok (.iload_n 0, 1) := by decide +kernel
theorem dJ6_numberOfTrailingZeros_0f7a4_35 : decode cJ6_numberOfTrailingZeros_0f7a4 35 = .ok (.sipush 256, 3) := by decide +kernel
theorem dJ6_numberOfTrailingZeros_0f7a4_38 : decode cJ6_numberOfTrailingZeros_0f7a4 38 = .ok (.if_icmp .le 11, 3) := by decide +kernel
theorem dJ6_numberOfTrailingZeros_0f7a4_41 : decode cJ6_numberOfTrailingZeros_0f7a4 41 = .ok (.iinc 1 8, 3) := by decide +kernel
theorem dJ6_numberOfTrailingZeros_0f7a4_44 : decode cJ6_numberOfTrailingZeros_0f7a4 44 = .ok (.iload_n 0, 1) := by decide +kernel
theorem dJ6_numberOfTrailingZeros_0f7a4_45 : decode cJ6_numberOfTrailingZeros_0f7a4 45 = .ok (.bipush 8, 2) := by decide +kernel
theorem dJ6_numberOfTrailingZeros_0f7a4_47 : decode cJ6_numberOfTrailingZeros_0f7a4 47 = .ok (.iushr, 1) := by decide +kernel
theorem dJ6_numberOfTrailingZeros_0f7a4_48 : decode cJ6_numberOfTrailingZeros_0f7a4 48 = .ok (.istore_n 0, 1) := by decide +kernel
theorem dJ6_numberOfTrailingZeros_0f7a4_49 : decode cJ6_numberOfTrailingZeros_0f7a4 49 = .ok (.iload_n 0, 1) := by decide +kernel
theorem dJ6_numberOfTrailingZeros_0f7a4_50 : decode cJ6_numberOfTrailingZeros_0f7a4 50 = .ok (.bipush 16, 2) := by decide +kernel
theorem dJ6_numberOfTrailingZeros_0f7a4_52 : decode cJ6_numberOfTrailingZeros_0f7a4 52 = .ok (.if_icmp .le 10, 3) := by decide +kernel
theorem dJ6_numberOfTrailingZeros_0f7a4_55 : decode cJ6_numberOfTrailingZeros_0f7a4 55 = .ok (.iinc 1 4, 3) := by decide +kernel
theorem dJ6_numberOfTrailingZeros_0f7a4_58 : decode cJ6_numberOfTrailingZeros_0f7a4 58 = .ok (.iload_n 0, 1) := by decide +kernel
theorem dJ6_numberOfTrailingZeros_0f7a4_59 : decode cJ6_numberOfTrailingZeros_0f7a4 59 = .ok (.iconst 4, 1) := by decide +kernel
theorem dJ6_numberOfTrailingZeros_0f7a4_60 : decode cJ6_numberOfTrailingZeros_0f7a4 60 = .ok (.iushr, 1) := by decide +kernel
theorem dJ6_numberOfTrailingZeros_0f7a4_61 : decode cJ6_numberOfTrailingZeros_0f7a4 61 = .ok (.istore_n 0, 1) := by decide +kernel
theorem dJ6_numberOfTrailingZeros_0f7a4_62 : decode cJ6_numberOfTrailingZeros_0f7a4 62 = .ok (.iload_n 0, 1) := by decide +kernel
theorem dJ6_numberOfTrailingZeros_0f7a4_63 : decode cJ6_numberOfTrailingZeros_0f7a4 63 = .ok (.iconst 4, 1) := by decide +kernel
theorem dJ6_numberOfTrailingZeros_0f7a4_64 : decode cJ6_numberOfTrailingZeros_0f7a4 64 = .ok (.if_icmp .le 10, 3) := by decide +kernel
theorem dJ6_numberOfTrailingZeros_0f7a4_67 : decode cJ6_numberOfTrailingZeros_0f7a4 67 = .ok (.iinc 1 2, 3) := by decide +kernel
theorem dJ6_numberOfTrailingZeros_0f7a4_70 : decode cJ6_numberOfTrailingZeros_0f7a4 70 = .ok (.iload_n 0, 1) := by decide +kernel
theorem dJ6_numberOfTrailingZeros_0f7a4_71 : decode cJ6_numberOfTrailingZeros_0f7a4 71 = .ok (.iconst 2, 1) := by decide +kernel
theorem dJ6_numberOfTrailingZeros_0f7a4_72 : decode cJ6_numberOfTrailingZeros_0f7a4 72 = .ok (.iushr, 1) := by decide +kernel
theorem dJ6_numberOfTrailingZeros_0f7a4_73 : decode cJ6_numberOfTrailingZeros_0f7a4 73 = .ok (.istore_n 0, 1) := by decide +kernel
theorem dJ6_numberOfTrailingZeros_0f7a4_74 : decode cJ6_numberOfTrailingZeros_0f7a4 74 = .ok (.iload_n 1, 1) := by decide +kernel
theorem dJ6_numberOfTrailingZeros_0f7a4_75 : decode cJ6_numberOfTrailingZeros_0f7a4 75 = .ok (.iload_n 0, 1) := by decide +kernel
theorem dJ6_numberOfTrailingZeros_0f7a4_76 : decode cJ6_numberOfTrailingZeros_0f7a4 76 = .ok (.iconst 1, 1) := by decide +kernel
theorem dJ6_numberOfTrailingZeros_0f7a4_77 : decode cJ6_numberOfTrailingZeros_0f7a4 77 = .ok (.iushr, 1) := by decide +kernel
theorem dJ6_numberOfTrailingZeros_0f7a4_78 : decode cJ6_numberOfTrailingZeros_0f7a4 78 = .ok (.iadd, 1) := by decide +kernel
theorem dJ6_numberOfTrailingZeros_0f7a4_79 : decode cJ6_numberOfTrailingZeros_0f7a4 79 = .ok (.ireturn, 1) := by decide +kernel
theorem dJ6_bitCount_0f7a4_0 : decode cJ6_bitCount_0f7a4 0 = .ok (.iload_n 0, 1) := by decide +kernel
theorem dJ6_bitCount_0f7a4_1 : decode cJ6_bitCount_0f7a4 1 = .ok (.iload_n 0, 1) := by decide +kernel
theorem dJ6_bitCount_0f7a4_2 : decode cJ6_bitCount_0f7a4 2 = .ok (.iconst 1, 1) := by decide +kernel
theorem dJ6_bitCount_0f7a4_3 : decode cJ6_bitCount_0f7a4 3 = .ok (.iushr, 1) := by decide +kernel
theorem dJ6_bitCount_0f7a4_4 : decode cJ6_bitCount_0f7a4 4 = .ok (.ldc_w 265, 3) := by decide +kernel
theorem dJ6_bitCount_0f7a4_7 : decode cJ6_bitCount_0f7a4 7 = .ok (.iand, 1) := by decide +kernel
theorem dJ6_bitCount_0f7a4_8 : decode cJ6_bitCount_0f7a4 8 = .ok (.isub, 1) := by decide +kernel
theorem dJ6_bitCount_0f7a4_9 : decode cJ6_bitCount_0f7a4 9 = .ok (.istore_n 0, 1) := by decide +kernel
theorem dJ6_bitCount_0f7a4_10 : decode cJ6_bitCount_0f7a4 10 = .ok (.iload_n 0, 1) := by decide +kernel
theorem dJ6_bitCount_0f7a4_11 : decode cJ6_bitCount_0f7a4 11 = .ok (.ldc_w 266, 3) := by decide +kernel
theorem dJ6_bitCount_0f7a4_14 : decode cJ6_bitCount_0f7a4 14 = .ok (.iand, 1) := by decide +kernel
theorem dJ6_bitCount_0f7a4_15 : decode cJ6_bitCount_0f7a4 15 = .ok (.iload_n 0, 1) := by decide +kernel
theorem dJ6_bitCount_0f7a4_16 : decode cJ6_bitCount_0f7a4 16 = .ok (.iconst 2, 1) := by decide +kernel
theorem dJ6_bitCount_0f7a4_17 : decode cJ6_bitCount_0f7a4 17 = .ok (.iushr, 1) := by decide +kernel
theorem dJ6_bitCount_0f7a4_18 : decode cJ6_bitCount_0f7a4 18 = .ok (.ldc_w 266, 3) := by decide +kernel
theorem dJ6_bitCount_0f7a4_21 : decode cJ6_bitCount_0f7a4 21 = .ok (.iand, 1) := by decide +kernel
theorem dJ6_bitCount_0f7a4_22 : decode cJ6_bitCount_0f7a4 22 = .ok (.iadd, 1) := by decide +kernel
theorem dJ6_bitCount_0f7a4_23 : decode cJ6_bitCount_0f7a4 23 = .ok (.istore_n 0, 1) := by decide +kernel
theorem dJ6_bitCount_0f7a4_24 : decode cJ6_bitCount_0f7a4 24 = .ok (.iload_n 0, 1) := by decide +kernel
theorem dJ6_bitCount_0f7a4_25 : decode cJ6_bitCount_0f7a4 25 = .ok (.iload_n 0, 1) := by decide +kernel
theorem dJ6_bitCount_0f7a4_26 : decode cJ6_bitCount_0f7a4 26 = .ok (.iconst 4, 1) := by decide +kernel
theorem dJ6_bitCount_0f7a4_27 : decode cJ6_bitCount_0f7a4 27 = .ok (.iushr, 1) := by decide +kernel
theorem dJ6_bitCount_0f7a4_28 : decode cJ6_bitCount_0f7a4 28 = .ok (.iadd, 1) := by decide +kernel
theorem dJ6_bitCount_0f7a4_29 : decode cJ6_bitCount_0f7a4 29 = .ok (.ldc_w 267, 3) := by decide +kernel
theorem dJ6_bitCount_0f7a4_32 : decode cJ6_bitCount_0f7a4 32 = .ok (.iand, 1) := by decide +kernel
theorem dJ6_bitCount_0f7a4_33 : decode cJ6_bitCount_0f7a4 33 = .ok (.istore_n 0, 1) := by decide +kernel
theorem dJ6_bitCount_0f7a4_34 : decode cJ6_bitCount_0f7a4 34 = .ok (.iload_n 0, 1) := by decide +kernel
theorem dJ6_bitCount_0f7a4_35 : decode cJ6_bitCount_0f7a4 35 = .ok (.iload_n 0, 1) := by decide +kernel
theorem dJ6_bitCount_0f7a4_36 : decode cJ6_bitCount_0f7a4 36 = .ok (.bipush 8, 2) := by decide +kernel
theorem dJ6_bitCount_0f7a4_38 : decode cJ6_bitCount_0f7a4 38 = .ok (.iushr, 1) := by decide +kernel
theorem dJ6_bitCount_0f7a4_39 : decode cJ6_bitCount_0f7a4 39 = .ok (.iadd, 1) := by decide +kernel
theorem dJ6_bitCount_0f7a4_40 : decode cJ6_bitCount_0f7a4 40 = .ok (.istore_n 0, 1) := by decide +kernel
theorem dJ6_bitCount_0f7a4_41 : decode cJ6_bitCount_0f7a4 41 = .ok (.iload_n 0, 1) := by decide +kernel
theorem dJ6_bitCount_0f7a4_42 : decode cJ6_bitCount_0f7a4 42 = .ok (.iload_n 0, 1) := by decide +kernel
theorem dJ6_bitCount_0f7a4_43 : decode cJ6_bitCount_0f7a4 43 = .ok (.bipush 16, 2) := by decide +kernel
theorem dJ6_bitCount_0f7a4_45 : decode cJ6_bitCount_0f7a4 45 = .ok (.iushr, 1) := by decide +kernel
theorem dJ6_bitCount_0f7a4_46 : decode cJ6_bitCount_0f7a4 46 = .ok (.iadd, 1) := by decide +kernel
theorem dJ6_bitCount_0f7a4_47 : decode cJ6_bitCount_0f7a4 47 = .ok (.istore_n 0, 1) := by decide +kernel
theorem dJ6_bitCount_0f7a4_48 : decode cJ6_bitCount_0f7a4 48 = .ok (.iload_n 0, 1) := by decide +kernel
theorem dJ6_bitCount_0f7a4_49 : decode cJ6_bitCount_0f7a4 49 = .ok (.bipush 63, 2) := by decide +kernel
theorem dJ6_bitCount_0f7a4_51 : decode cJ6_bitCount_0f7a4 51 = .ok (.iand, 1) := by decide +kernel
theorem dJ6_bitCount_0f7a4_52 : decode cJ6_bitCount_0f7a4 52 = .ok (.ireturn, 1) := by decide +kernel
theorem dJ9_floorMod_7cf53_0 : decode cJ9_floorMod_7cf53 0 = .ok (.iload_n 0, 1) := by decide +kernel
theorem dJ9_floorMod_7cf53_1 : decode cJ9_floorMod_7cf53 1 = .ok (.iload_n 1, 1) := by decide +kernel
theorem dJ9_floorMod_7cf53_2 : decode cJ9_floorMod_7cf53 2 = .ok (.irem, 1) := by decide +kernel
theorem dJ9_floorMod_7cf53_3 : decode cJ9_floorMod_7cf53 3 = .ok (.istore_n 2, 1) := by decide +kernel
theorem dJ9_floorMod_7cf53_4 : decode cJ9_floorMod_7cf53 4 = .ok (.iload_n 0, 1) := by decide +kernel
theorem dJ9_floorMod_7cf53_5 : decode cJ9_floorMod_7cf53 5 = .ok (.iload_n 1, 1) := by decide +kernel
theorem dJ9_floorMod_7cf53_6 : decode cJ9_floorMod_7cf53 6 = .ok (.ixor, 1) := by decide +kernel
theorem dJ9_floorMod_7cf53_7 : decode cJ9_floorMod_7cf53 7 = .ok (.ifCond .ge 11, 3) := by decide +kernel
theorem dJ9_floorMod_7cf53_10 : decode cJ9_floorMod_7cf53 10 = .ok (.iload_n 2, 1) := by decide +kernel
theorem dJ9_floorMod_7cf53_11 : decode cJ9_floorMod_7cf53 11 = .ok (.ifCond .eq 7, 3) := by decide +kernel
theorem dJ9_floorMod_7cf53_14 : decode cJ9_floorMod_7cf53 14 = .ok (.iload_n 2, 1) := by decide +kernel
theorem dJ9_floorMod_7cf53_15 : decode cJ9_floorMod_7cf53 15 = .ok (.iload_n 1, 1) := by decide +kernel
theorem dJ9_floorMod_7cf53_16 : decode cJ9_floorMod_7cf53 16 = .ok (.iadd, 1) := by decide +kernel
theorem dJ9_floorMod_7cf53_17 : decode cJ9_floorMod_7cf53 17 = .ok (.ireturn, 1) := by decide +kernel
theorem dJ9_floorMod_7cf53_18 : decode cJ9_floorMod_7cf53 18 = .ok (.iload_n 2, 1) := by decide +kernel
theorem dJ9_floorMod_7cf53_19 : decode cJ9_floorMod_7cf53 19 = .ok (.ireturn, 1) := by decide +kernel
theorem dJ9_max_7cf53_0 : decode cJ9_max_7cf53 0 = .ok (.iload_n 0, 1) := by decide +kernel
theorem dJ9_max_7cf53_1 : decode cJ9_max_7cf53 1 = .ok (.iload_n 1, 1) := by decide +kernel
theorem dJ9_max_7cf53_2 : decode cJ9_max_7cf53 2 = .ok (.if_icmp .lt 7, 3) := by decide +kernel
theorem dJ9_max_7cf53_5 : decode cJ9_max_7cf53 5 = .ok (.iload_n 0, 1) := by decide +kernel
theorem dJ9_max_7cf53_6 : decode cJ9_max_7cf53 6 = .ok (.goto 4, 3) := by decide +kernel
theorem dJ9_max_7cf53_9 : decode cJ9_max_7cf53 9 = .ok (.iload_n 1, 1) := by decide +kernel
theorem dJ9_max_7cf53_10 : decode cJ9_max_7cf53 10 = .ok (.ireturn, 1) := by decide +kernel
theorem dJ0_length_8abf5_0 : decode cJ0_length_8abf5 0 = .ok (.aload_n 0, 1) := by decide +kernel
theorem dJ0_length_8abf5_1 : decode cJ0_length_8abf5 1 = .ok (.getfield 9, 3) := by decide +kernel
theorem dJ0_length_8abf5_4 : decode cJ0_length_8abf5 4 = .ok (.arraylength, 1) := by decide +kernel
theorem dJ0_length_8abf5_5 : decode cJ0_length_8abf5 5 = .ok (.aload_n 0, 1) := by decide +kernel
theorem dJ0_length_8abf5_6 : decode cJ0_length_8abf5 6 = .ok (.invokevirtual 335, 3) := by decide +kernel
theorem dJ0_length_8abf5_9 : decode cJ0_length_8abf5 9 = .ok (.ishr, 1) := by decide +kernel
theorem dJ0_length_8abf5_10 : decode cJ0_length_8abf5 10 = .ok (.ireturn, 1) := by decide +kernel
theorem dJ0_charAt_5068e_0 : decode cJ0_charAt_5068e 0 = .ok (.aload_n 0, 1) := by decide +kernel
theorem dJ0_charAt_5068e_1 : decode cJ0_charAt_5068e 1 = .ok (.invokevirtual 492, 3) := by decide +kernel
theorem dJ0_charAt_5068e_4 : decode cJ0_charAt_5068e 4 = .ok (.ifCond .eq 12, 3) := by decide +kernel
theorem dJ0_charAt_5068e_7 : decode cJ0_charAt_5068e 7 = .ok (.aload_n 0, 1) := by decide +kernel
theorem dJ0_charAt_5068e_8 : decode cJ0_charAt_5068e 8 = .ok (.getfield 9, 3) := by decide +kernel
theorem dJ0_charAt_5068e_11 : decode cJ0_charAt_5068e 11 = .ok (.iload_n 1, 1) := by decide +kernel
theorem dJ0_charAt_5068e_12 : decode cJ0_charAt_5068e 12 = .ok (.invokestatic 495, 3) := by decide +kernel
theorem dJ0_charAt_5068e_15 : decode cJ0_charAt_5068e 15 = .ok (.ireturn, 1) := by decide +kernel
theorem dJ0_charAt_5068e_16 : decode cJ0_charAt_5068e 16 = .ok (.aload_n 0, 1) := by decide +kernel
theorem dJ0_charAt_5068e_17 : decode cJ0_charAt_5068e 17 = .ok (.getfield 9, 3) := by decide +kernel
theorem dJ0_charAt_5068e_20 : decode cJ0_charAt_5068e 20 = .ok (.iload_n 1, 1) := by decide +kernel
theorem dJ0_charAt_5068e_21 : decode cJ0_charAt_5068e 21 = .ok (.invokestatic 498, 3) := by decide +kernel
theorem dJ0_charAt_5068e_24 : decode cJ0_charAt_5068e 24 = .ok (.ireturn, 1) := by decide +kernel
theorem dJ0_coder_7d493_0 : decode cJ0_coder_7d493 0 = .ok (.getstatic 38, 3) := by decide +kernel
theorem dJ0_coder_7d493_3 : decode cJ0_coder_7d493 3 = .ok (.ifCond .eq 10, 3) := by decide +kernel
theorem dJ0_coder_7d493_6 : decode cJ0_coder_7d493 6 = .ok (.aload_n 0, 1) := by decide +kernel
theorem dJ0_coder_7d493_7 : decode cJ0_coder_7d493 7 = .ok (.getfield 15, 3) := by decide +kernel
theorem dJ0_coder_7d493_10 : decode cJ0_coder_7d493 10 = .ok (.goto 4, 3) := by decide +kernel
theorem dJ0_coder_7d493_13 : decode cJ0_coder_7d493 13 = .ok (.iconst 1, 1) := by decide +kernel
theorem dJ0_coder_7d493_14 : decode cJ0_coder_7d493 14 = .ok (.ireturn, 1) := by decide +kernel
theorem dJ0_isLatin1_aae02_0 : decode cJ0_isLatin1_aae02 0 = .ok (.getstatic 38, 3) := by decide +kernel
theorem dJ0_isLatin1_aae02_3 : decode cJ0_isLatin1_aae02 3 = .ok (.ifCond .eq 14, 3) := by decide +kernel
theorem dJ0_isLatin1_aae02_6 : decode cJ0_isLatin1_aae02 6 = .ok (.aload_n 0, 1) := by decide +kernel
theorem dJ0_isLatin1_aae02_7 : decode cJ0_isLatin1_aae02 7 = .ok (.getfield 15, 3) := by decide +kernel
theorem dJ0_isLatin1_aae02_10 : decode cJ0_isLatin1_aae02 10 = .ok (.ifCond .ne 7, 3) := by decide +kernel
theorem dJ0_isLatin1_aae02_13 : decode cJ0_isLatin1_aae02 13 = .ok (.iconst 1, 1) := by decide +kernel
theorem dJ0_isLatin1_aae02_14 : decode cJ0_isLatin1_aae02 14 = .ok (.goto 4, 3) := by decide +kernel
theorem dJ0_isLatin1_aae02_17 : decode cJ0_isLatin1_aae02 17 = .ok (.iconst 0, 1) := by decide +kernel
theorem dJ0_isLatin1_aae02_18 : decode cJ0_isLatin1_aae02 18 = .ok (.ireturn, 1) := by decide +kernel
theorem dJ0_checkIndex_df160_0 : decode cJ0_checkIndex_df160 0 = .ok (.iload_n 0, 1) := by decide +kernel
theorem dJ0_checkIndex_df160_1 : decode cJ0_checkIndex_df160 1 = .ok (.iload_n 1, 1) := by decide +kernel
theorem dJ0_checkIndex_df160_2 : decode cJ0_checkIndex_df160 2 = .ok (.getstatic 1053, 3) := by decide +kernel
theorem dJ0_checkIndex_df160_5 : decode cJ0_checkIndex_df160 5 = .ok (.invokestatic 1059, 3) := by decide +kernel
theorem dJ0_checkIndex_df160_8 : decode cJ0_checkIndex_df160 8 = .ok (.pop, 1) := by decide +kernel
theorem dJ0_checkIndex_df160_9 : decode cJ0_checkIndex_df160 9 = .ok (.return_, 1) := by decide +kernel
theorem dJ1_charAt_3b067_0 : decode cJ1_charAt_3b067 0 = .ok (.iload_n 1, 1) := by decide +kernel
theorem dJ1_charAt_3b067_1 : decode cJ1_charAt_3b067 1 = .ok (.aload_n 0, 1) := by decide +kernel
theorem dJ1_charAt_3b067_2 : decode cJ1_charAt_3b067 2 = .ok (.arraylength, 1) := by decide +kernel
theorem dJ1_charAt_3b067_3 : decode cJ1_charAt_3b067 3 = .ok (.invokestatic 9, 3) := by decide +kernel
theorem dJ1_charAt_3b067_6 : decode cJ1_charAt_3b067 6 = .ok (.aload_n 0, 1) := by decide +kernel
theorem dJ1_charAt_3b067_7 : decode cJ1_charAt_3b067 7 = .ok (.iload_n 1, 1) := by decide +kernel
theorem dJ1_charAt_3b067_8 : decode cJ1_charAt_3b067 8 = .ok (.baload, 1) := by decide +kernel
theorem dJ1_charAt_3b067_9 : decode cJ1_charAt_3b067 9 = .ok (.sipush 255, 3) := by decide +kernel
theorem dJ1_charAt_3b067_12 : decode cJ1_charAt_3b067 12 = .ok (.iand, 1) := by decide +kernel
theorem dJ1_charAt_3b067_13 : decode cJ1_charAt_3b067 13 = .ok (.i2c, 1) := by decide +kernel
theorem dJ1_charAt_3b067_14 : decode cJ1_charAt_3b067 14 = .ok (.ireturn, 1) := by decide +kernel
theorem dJ2_getChar_3b067_0 : decode cJ2_getChar_3b067 0 = .ok (.getstatic 44, 3) := by decide +kernel
theorem dJ2_getChar_3b067_3 : decode cJ2_getChar_3b067 3 = .ok (.ifCond .ne 25, 3) := by decide +kernel
theorem dJ2_getChar_3b067_6 : decode cJ2_getChar_3b067 6 = .ok (.iload_n 1, 1) := by decide +kernel
theorem dJ2_getChar_3b067_7 : decode cJ2_getChar_3b067 7 = .ok (.ifCond .lt 11, 3) := by decide +kernel
theorem dJ2_getChar_3b067_10 : decode cJ2_getChar_3b067 10 = .ok (.iload_n 1, 1) := by decide +kernel
theorem dJ2_getChar_3b067_11 : decode cJ2_getChar_3b067 11 = .ok (.aload_n 0, 1) := by decide +kernel
theorem dJ2_getChar_3b067_12 : decode cJ2_getChar_3b067 12 = .ok (.invokestatic 48, 3) := by decide +kernel
theorem dJ2_getChar_3b067_15 : decode cJ2_getChar_3b067 15 = .ok (.if_icmp .lt 13, 3) := by decide +kernel
theorem dJ2_getChar_3b067_18 : decode cJ2_getChar_3b067 18 = .ok (.new 52, 3) := by decide +kernel
theorem dJ2_getChar_3b067_21 : decode cJ2_getChar_3b067 21 = .ok (.dup, 1) := by decide +kernel
theorem dJ2_getChar_3b067_22 : decode cJ2_getChar_3b067 22 = .ok (.ldc 54, 2) := by decide +kernel
theorem dJ2_getChar_3b067_24 : decode cJ2_getChar_3b067 24 = .ok (.invokespecial 56, 3) := by decide +kernel
theorem dJ2_getChar_3b067_27 : decode cJ2_getChar_3b067 27 = .ok (.athrow, 1) := by decide +kernel
theorem dJ2_getChar_3b067_28 : decode cJ2_getChar_3b067 28 = .ok (.iload_n 1, 1) := by decide +kernel
theorem dJ2_getChar_3b067_29 : decode cJ2_getChar_3b067 29 = .ok (.iconst 1, 1) := by decide +kernel
theorem dJ2_getChar_3b067_30 : decode cJ2_getChar_3b067 30 = .ok (.ishl, 1) := by decide +kernel
theorem dJ2_getChar_3b067_31 : decode cJ2_getChar_3b067 31 = .ok (.istore_n 1, 1) := by decide +kernel
theorem dJ2_getChar_3b067_32 : decode cJ2_getChar_3b067 32 = .ok (.aload_n 0, 1) := by decide +kernel
theorem dJ2_getChar_3b067_33 : decode cJ2_getChar_3b067 33 = .ok (.iload_n 1, 1) := by decide +kernel
theorem dJ2_getChar_3b067_34 : decode cJ2_getChar_3b067 34 = .ok (.iinc 1 1, 3) := by decide +kernel
theorem dJ2_getChar_3b067_37 : decode cJ2_getChar_3b067 37 = .ok (.baload, 1) := by decide +kernel
theorem dJ2_getChar_3b067_38 : decode cJ2_getChar_3b067 38 = .ok (.sipush 255, 3) := by decide +kernel
theorem dJ2_getChar_3b067_41 : decode cJ2_getChar_3b067 41 = .ok (.iand, 1) := by decide +kernel
theorem dJ2_getChar_3b067_42 : decode cJ2_getChar_3b067 42 = .ok (.getstatic 59, 3) := by decide +kernel
theorem dJ2_getChar_3b067_45 : decode cJ2_getChar_3b067 45 = .ok (.ishl, 1) := by decide +kernel
theorem dJ2_getChar_3b067_46 : decode cJ2_getChar_3b067 46 = .ok (.aload_n 0, 1) := by decide +kernel
theorem dJ2_getChar_3b067_47 : decode cJ2_getChar_3b067 47 = .ok (.iload_n 1, 1) := by decide +kernel
theorem dJ2_getChar_3b067_48 : decode cJ2_getChar_3b067 48 = .ok (.baload, 1) := by decide +kernel
theorem dJ2_getChar_3b067_49 : decode cJ2_getChar_3b067 49 = .ok (.sipush 255, 3) := by decide +kernel
theorem dJ2_getChar_3b067_52 : decode cJ2_getChar_3b067 52 = .ok (.iand, 1) := by decide +kernel
theorem dJ2_getChar_3b067_53 : decode cJ2_getChar_3b067 53 = .ok (.getstatic 63, 3) := by decide +kernel
theorem dJ2_getChar_3b067_56 : decode cJ2_getChar_3b067 56 = .ok (.ishl, 1) := by decide +kernel
theorem dJ2_getChar_3b067_57 : decode cJ2_getChar_3b067 57 = .ok (.ior, 1) := by decide +kernel
theorem dJ2_getChar_3b067_58 : decode cJ2_getChar_3b067 58 = .ok (.i2c, 1) := by decide +kernel
theorem dJ2_getChar_3b067_59 : decode cJ2_getChar_3b067 59 = .ok (.ireturn, 1) := by decide +kernel
theorem dJ2_length_9d52b_0 : decode cJ2_length_9d52b 0 = .ok (.aload_n 0, 1) := by decide +kernel
theorem dJ2_length_9d52b_1 : decode cJ2_length_9d52b 1 = .ok (.arraylength, 1) := by decide +kernel
theorem dJ2_length_9d52b_2 : decode cJ2_length_9d52b 2 = .ok (.iconst 1, 1) := by decide +kernel
theorem dJ2_length_9d52b_3 : decode cJ2_length_9d52b 3 = .ok (.ishr, 1) := by decide +kernel
theorem dJ2_length_9d52b_4 : decode cJ2_length_9d52b 4 = .ok (.ireturn, 1) := by decide +kernel
theorem dJ2_charAt_3b067_0 : decode cJ2_charAt_3b067 0 = .ok (.iload_n 1, 1) := by decide +kernel
theorem dJ2_charAt_3b067_1 : decode cJ2_charAt_3b067 1 = .ok (.aload_n 0, 1) := by decide +kernel
theorem dJ2_charAt_3b067_2 : decode cJ2_charAt_3b067 2 = .ok (.invokestatic 67, 3) := by decide +kernel
theorem dJ2_charAt_3b067_5 : decode cJ2_charAt_3b067 5 = .ok (.aload_n 0, 1) := by decide +kernel
theorem dJ2_charAt_3b067_6 : decode cJ2_charAt_3b067 6 = .ok (.iload_n 1, 1) := by decide +kernel
theorem dJ2_charAt_3b067_7 : decode cJ2_charAt_3b067 7 = .ok (.invokestatic 71, 3) := by decide +kernel
theorem dJ2_charAt_3b067_10 : decode cJ2_charAt_3b067 10 = .ok (.ireturn, 1) := by decide +kernel
theorem dJ2_checkIndex_2214a_0 : decode cJ2_checkIndex_2214a 0 = .ok (.iload_n 0, 1) := by decide +kernel
theorem dJ2_checkIndex_2214a_1 : decode cJ2_checkIndex_2214a 1 = .ok (.aload_n 1, 1) := by decide +kernel
theorem dJ2_checkIndex_2214a_2 : decode cJ2_checkIndex_2214a 2 = .ok (.invokestatic 48, 3) := by decide +kernel
theorem dJ2_checkIndex_2214a_5 : decode cJ2_checkIndex_2214a 5 = .ok (.invokestatic 414, 3) := by decide +kernel
theorem dJ2_checkIndex_2214a_8 : decode cJ2_checkIndex_2214a 8 = .ok (.return_, 1) := by decide +kernel
theorem dJ7_fill_d0a16_0 : decode cJ7_fill_d0a16 0 = .ok (.iconst 0, 1) := by decide +kernel
theorem dJ7_fill_d0a16_1 : decode cJ7_fill_d0a16 1 = .ok (.istore_n 3, 1) := by decide +kernel
theorem dJ7_fill_d0a16_2 : decode cJ7_fill_d0a16 2 = .ok (.aload_n 0, 1) := by decide +kernel
theorem dJ7_fill_d0a16_3 : decode cJ7_fill_d0a16 3 = .ok (.arraylength, 1) := by decide +kernel
theorem dJ7_fill_d0a16_4 : decode cJ7_fill_d0a16 4 = .ok (.istore 4, 2) := by decide +kernel
theorem dJ7_fill_d0a16_6 : decode cJ7_fill_d0a16 6 = .ok (.iload_n 3, 1) := by decide +kernel
theorem dJ7_fill_d0a16_7 : decode cJ7_fill_d0a16 7 = .ok (.iload 4, 2) := by decide +kernel
theorem dJ7_fill_d0a16_9 : decode cJ7_fill_d0a16 9 = .ok (.if_icmp .ge 13, 3) := by decide +kernel
theorem dJ7_fill_d0a16_12 : decode cJ7_fill_d0a16 12 = .ok (.aload_n 0, 1) := by decide +kernel
theorem dJ7_fill_d0a16_13 : decode cJ7_fill_d0a16 13 = .ok (.iload_n 3, 1) := by decide +kernel
theorem dJ7_fill_d0a16_14 : decode cJ7_fill_d0a16 14 = .ok (.lload_n 1, 1) := by decide +kernel
theorem dJ7_fill_d0a16_15 : decode cJ7_fill_d0a16 15 = .ok (.lastore, 1) := by decide +kernel
theorem dJ7_fill_d0a16_16 : decode cJ7_fill_d0a16 16 = .ok (.iinc 3 1, 3) := by decide +kernel
theorem dJ7_fill_d0a16_19 : decode cJ7_fill_d0a16 19 = .ok (.goto (-13), 3) := by decide +kernel
theorem dJ7_fill_d0a16_22 : decode cJ7_fill_d0a16 22 = .ok (.return_, 1) := by decide +kernel
theorem dJ7_fill_53178_0 : decode cJ7_fill_53178 0 = .ok (.iconst 0, 1) := by decide +kernel
theorem dJ7_fill_53178_1 : decode cJ7_fill_53178 1 = .ok (.istore_n 2, 1) := by decide +kernel
theorem dJ7_fill_53178_2 : decode cJ7_fill_53178 2 = .ok (.aload_n 0, 1) := by decide +kernel
theorem dJ7_fill_53178_3 : decode cJ7_fill_53178 3 = .ok (.arraylength, 1) := by decide +kernel
theorem dJ7_fill_53178_4 : decode cJ7_fill_53178 4 = .ok (.istore_n 3, 1) := by decide +kernel
theorem dJ7_fill_53178_5 : decode cJ7_fill_53178 5 = .ok (.iload_n 2, 1) := by decide +kernel
theorem dJ7_fill_53178_6 : decode cJ7_fill_53178 6 = .ok (.iload_n 3, 1) := by decide +kernel
theorem dJ7_fill_53178_7 : decode cJ7_fill_53178 7 = .ok (.if_icmp .ge 13, 3) := by decide +kernel
theorem dJ7_fill_53178_10 : decode cJ7_fill_53178 10 = .ok (.aload_n 0, 1) := by decide +kernel
theorem dJ7_fill_53178_11 : decode cJ7_fill_53178 11 = .ok (.iload_n 2, 1) := by decide +kernel
theorem dJ7_fill_53178_12 : decode cJ7_fill_53178 12 = .ok (.iload_n 1, 1) := by decide +kernel
theorem dJ7_fill_53178_13 : decode cJ7_fill_53178 13 = .ok (.iastore, 1) := by decide +kernel
theorem dJ7_fill_53178_14 : decode cJ7_fill_53178 14 = .ok (.iinc 2 1, 3) := by decide +kernel
theorem dJ7_fill_53178_17 : decode cJ7_fill_53178 17 = .ok (.goto (-12), 3) := by decide +kernel
theorem dJ7_fill_53178_20 : decode cJ7_fill_53178 20 = .ok (.return_, 1) := by decide +kernel
theorem dJ3_checkIndex_8e157_0 : decode cJ3_checkIndex_8e157 0 = .ok (.iload_n 0, 1) := by decide +kernel
theorem dJ3_checkIndex_8e157_1 : decode cJ3_checkIndex_8e157 1 = .ok (.ifCond .lt 8, 3) := by decide +kernel
theorem dJ3_checkIndex_8e157_4 : decode cJ3_checkIndex_8e157 4 = .ok (.iload_n 0, 1) := by decide +kernel
theorem dJ3_checkIndex_8e157_5 : decode cJ3_checkIndex_8e157 5 = .ok (.iload_n 1, 1) := by decide +kernel
theorem dJ3_checkIndex_8e157_6 : decode cJ3_checkIndex_8e157 6 = .ok (.if_icmp .lt 10, 3) := by decide +kernel
theorem dJ3_checkIndex_8e157_9 : decode cJ3_checkIndex_8e157 9 = .ok (.aload_n 2, 1) := by decide +kernel
theorem dJ3_checkIndex_8e157_10 : decode cJ3_checkIndex_8e157 10 = .ok (.iload_n 0, 1) := by decide +kernel
theorem dJ3_checkIndex_8e157_11 : decode cJ3_checkIndex_8e157 11 = .ok (.iload_n 1, 1) := by decide +kernel
theorem dJ3_checkIndex_8e157_12 : decode cJ3_checkIndex_8e157 12 = .ok (.invokestatic 95, 3) := by decide +kernel
theorem dJ3_checkIndex_8e157_15 : decode cJ3_checkIndex_8e157 15 = .ok (.athrow, 1) := by decide +kernel
theorem dJ3_checkIndex_8e157_16 : decode cJ3_checkIndex_8e157 16 = .ok (.iload_n 0, 1) := by decide +kernel
theorem dJ3_checkIndex_8e157_17 : decode cJ3_checkIndex_8e157 17 = .ok (.ireturn, 1) := by decide +kernel
theorem dL_law_0 : decode cL_law 0 = .ok (.new 7, 3) := by decide +kernel
theorem dL_law_3 : decode cL_law 3 = .ok (.dup, 1) := by decide +kernel
theorem dL_law_4 : decode cL_law 4 = .ok (.invokespecial 9, 3) := by decide +kernel
theorem dL_law_7 : decode cL_law 7 = .ok (.astore_n 1, 1) := by decide +kernel
theorem dL_law_8 : decode cL_law 8 = .ok (.new 10, 3) := by decide +kernel
theorem dL_law_11 : decode cL_law 11 = .ok (.dup, 1) := by decide +kernel
theorem dL_law_12 : decode cL_law 12 = .ok (.invokespecial 12, 3) := by decide +kernel
theorem dL_law_15 : decode cL_law 15 = .ok (.astore_n 2, 1) := by decide +kernel
theorem dL_law_16 : decode cL_law 16 = .ok (.iconst 0, 1) := by decide +kernel
theorem dL_law_17 : decode cL_law 17 = .ok (.istore_n 3, 1) := by decide +kernel
theorem dL_law_18 : decode cL_law 18 = .ok (.iload_n 3, 1) := by decide +kernel
theorem dL_law_19 : decode cL_law 19 = .ok (.aload_n 0, 1) := by decide +kernel
theorem dL_law_20 : decode cL_law 20 = .ok (.arraylength, 1) := by decide +kernel
theorem dL_law_21 : decode cL_law 21 = .ok (.bipush 6, 2) := by decide +kernel
theorem dL_law_23 : decode cL_law 23 = .ok (.isub, 1) := by decide +kernel
theorem dL_law_24 : decode cL_law 24 = .ok (.if_icmp .gt 1490, 3) := by decide +kernel
theorem dL_law_27 : decode cL_law 27 = .ok (.aload_n 0, 1) := by decide +kernel
theorem dL_law_28 : decode cL_law 28 = .ok (.iload_n 3, 1) := by decide +kernel
theorem dL_law_29 : decode cL_law 29 = .ok (.iaload, 1) := by decide +kernel
theorem dL_law_30 : decode cL_law 30 = .ok (.bipush 63, 2) := by decide +kernel
theorem dL_law_32 : decode cL_law 32 = .ok (.iand, 1) := by decide +kernel
theorem dL_law_33 : decode cL_law 33 = .ok (.tableswitch 1475 0 41 #[183, 206, 269, 302, 335, 368, 381, 404, 427, 470, 503, 536, 559, 592, 625, 688, 701, 714, 737, 760, 803, 826, 839, 872, 915, 928, 977, 1010, 1043, 1056, 1089, 1102, 1145, 1188, 1231, 1284, 1327, 1360, 1403, 1426, 1449, 1462], 183) := by decide +kernel
theorem dL_law_216 : decode cL_law 216 = .ok (.aload_n 1, 1) := by decide +kernel
theorem dL_law_217 : decode cL_law 217 = .ok (.aload_n 0, 1) := by decide +kernel
theorem dL_law_218 : decode cL_law 218 = .ok (.iload_n 3, 1) := by decide +kernel
theorem dL_law_219 : decode cL_law 219 = .ok (.iconst 1, 1) := by decide +kernel
theorem dL_law_220 : decode cL_law 220 = .ok (.iadd, 1) := by decide +kernel
theorem dL_law_221 : decode cL_law 221 = .ok (.iaload, 1) := by decide +kernel
theorem dL_law_222 : decode cL_law 222 = .ok (.invokevirtual 13, 3) := by decide +kernel
theorem dL_law_225 : decode cL_law 225 = .ok (.aload_n 2, 1) := by decide +kernel
theorem dL_law_226 : decode cL_law 226 = .ok (.aload_n 0, 1) := by decide +kernel
theorem dL_law_227 : decode cL_law 227 = .ok (.iload_n 3, 1) := by decide +kernel
theorem dL_law_228 : decode cL_law 228 = .ok (.iconst 1, 1) := by decide +kernel
theorem dL_law_229 : decode cL_law 229 = .ok (.iadd, 1) := by decide +kernel
theorem dL_law_230 : decode cL_law 230 = .ok (.iaload, 1) := by decide +kernel
theorem dL_law_231 : decode cL_law 231 = .ok (.invokevirtual 17, 3) := by decide +kernel
theorem dL_law_234 : decode cL_law 234 = .ok (.if_icmp .eq 1274, 3) := by decide +kernel
theorem dL_law_237 : decode cL_law 237 = .ok (.iconst 0, 1) := by decide +kernel
theorem dL_law_238 : decode cL_law 238 = .ok (.ireturn, 1) := by decide +kernel
theorem dL_law_239 : decode cL_law 239 = .ok (.aload_n 1, 1) := by decide +kernel
theorem dL_law_240 : decode cL_law 240 = .ok (.aload_n 0, 1) := by decide +kernel
theorem dL_law_241 : decode cL_law 241 = .ok (.iload_n 3, 1) := by decide +kernel
theorem dL_law_242 : decode cL_law 242 = .ok (.iconst 1, 1) := by decide +kernel
theorem dL_law_243 : decode cL_law 243 = .ok (.iadd, 1) := by decide +kernel
theorem dL_law_244 : decode cL_law 244 = .ok (.iaload, 1) := by decide +kernel
theorem dL_law_245 : decode cL_law 245 = .ok (.aload_n 0, 1) := by decide +kernel
theorem dL_law_246 : decode cL_law 246 = .ok (.iload_n 3, 1) := by decide +kernel
theorem dL_law_247 : decode cL_law 247 = .ok (.iconst 2, 1) := by decide +kernel
theorem dL_law_248 : decode cL_law 248 = .ok (.iadd, 1) := by decide +kernel
theorem dL_law_249 : decode cL_law 249 = .ok (.iaload, 1) := by decide +kernel
theorem dL_law_250 : decode cL_law 250 = .ok (.aload_n 0, 1) := by decide +kernel
theorem dL_law_251 : decode cL_law 251 = .ok (.iload_n 3, 1) := by decide +kernel
theorem dL_law_252 : decode cL_law 252 = .ok (.iconst 3, 1) := by decide +kernel
theorem dL_law_253 : decode cL_law 253 = .ok (.iadd, 1) := by decide +kernel
theorem dL_law_254 : decode cL_law 254 = .ok (.iaload, 1) := by decide +kernel
theorem dL_law_255 : decode cL_law 255 = .ok (.aload_n 0, 1) := by decide +kernel
theorem dL_law_256 : decode cL_law 256 = .ok (.iload_n 3, 1) := by decide +kernel
theorem dL_law_257 : decode cL_law 257 = .ok (.iconst 4, 1) := by decide +kernel
theorem dL_law_258 : decode cL_law 258 = .ok (.iadd, 1) := by decide +kernel
theorem dL_law_259 : decode cL_law 259 = .ok (.iaload, 1) := by decide +kernel
theorem dL_law_260 : decode cL_law 260 = .ok (.aload_n 0, 1) := by decide +kernel
theorem dL_law_261 : decode cL_law 261 = .ok (.iload_n 3, 1) := by decide +kernel
theorem dL_law_262 : decode cL_law 262 = .ok (.iconst 5, 1) := by decide +kernel
theorem dL_law_263 : decode cL_law 263 = .ok (.iadd, 1) := by decide +kernel
theorem dL_law_264 : decode cL_law 264 = .ok (.iaload, 1) := by decide +kernel
theorem dL_law_265 : decode cL_law 265 = .ok (.invokevirtual 18, 3) := by decide +kernel
theorem dL_law_268 : decode cL_law 268 = .ok (.aload_n 2, 1) := by decide +kernel
theorem dL_law_269 : decode cL_law 269 = .ok (.aload_n 0, 1) := by decide +kernel
theorem dL_law_270 : decode cL_law 270 = .ok (.iload_n 3, 1) := by decide +kernel
theorem dL_law_271 : decode cL_law 271 = .ok (.iconst 1, 1) := by decide +kernel
theorem dL_law_272 : decode cL_law 272 = .ok (.iadd, 1) := by decide +kernel
theorem dL_law_273 : decode cL_law 273 = .ok (.iaload, 1) := by decide +kernel
theorem dL_law_274 : decode cL_law 274 = .ok (.aload_n 0, 1) := by decide +kernel
theorem dL_law_275 : decode cL_law 275 = .ok (.iload_n 3, 1) := by decide +kernel
theorem dL_law_276 : decode cL_law 276 = .ok (.iconst 2, 1) := by decide +kernel
theorem dL_law_277 : decode cL_law 277 = .ok (.iadd, 1) := by decide +kernel
theorem dL_law_278 : decode cL_law 278 = .ok (.iaload, 1) := by decide +kernel
theorem dL_law_279 : decode cL_law 279 = .ok (.aload_n 0, 1) := by decide +kernel
theorem dL_law_280 : decode cL_law 280 = .ok (.iload_n 3, 1) := by decide +kernel
theorem dL_law_281 : decode cL_law 281 = .ok (.iconst 3, 1) := by decide +kernel
theorem dL_law_282 : decode cL_law 282 = .ok (.iadd, 1) := by decide +kernel
theorem dL_law_283 : decode cL_law 283 = .ok (.iaload, 1) := by decide +kernel
theorem dL_law_284 : decode cL_law 284 = .ok (.aload_n 0, 1) := by decide +kernel
theorem dL_law_285 : decode cL_law 285 = .ok (.iload_n 3, 1) := by decide +kernel
theorem dL_law_286 : decode cL_law 286 = .ok (.iconst 4, 1) := by decide +kernel
theorem dL_law_287 : decode cL_law 287 = .ok (.iadd, 1) := by decide +kernel
theorem dL_law_288 : decode cL_law 288 = .ok (.iaload, 1) := by decide +kernel
theorem dL_law_289 : decode cL_law 289 = .ok (.aload_n 0, 1) := by decide +kernel
theorem dL_law_290 : decode cL_law 290 = .ok (.iload_n 3, 1) := by decide +kernel
theorem dL_law_291 : decode cL_law 291 = .ok (.iconst 5, 1) := by decide +kernel
theorem dL_law_292 : decode cL_law 292 = .ok (.iadd, 1) := by decide +kernel
theorem dL_law_293 : decode cL_law 293 = .ok (.iaload, 1) := by decide +kernel
theorem dL_law_294 : decode cL_law 294 = .ok (.invokevirtual 22, 3) := by decide +kernel
theorem dL_law_297 : decode cL_law 297 = .ok (.if_icmp .eq 1211, 3) := by decide +kernel
theorem dL_law_300 : decode cL_law 300 = .ok (.iconst 0, 1) := by decide +kernel
theorem dL_law_301 : decode cL_law 301 = .ok (.ireturn, 1) := by decide +kernel
theorem dL_law_302 : decode cL_law 302 = .ok (.aload_n 1, 1) := by decide +kernel
theorem dL_law_303 : decode cL_law 303 = .ok (.aload_n 0, 1) := by decide +kernel
theorem dL_law_304 : decode cL_law 304 = .ok (.iload_n 3, 1) := by decide +kernel
theorem dL_law_305 : decode cL_law 305 = .ok (.iconst 1, 1) := by decide +kernel
theorem dL_law_306 : decode cL_law 306 = .ok (.iadd, 1) := by decide +kernel
theorem dL_law_307 : decode cL_law 307 = .ok (.iaload, 1) := by decide +kernel
theorem dL_law_308 : decode cL_law 308 = .ok (.aload_n 0, 1) := by decide +kernel
theorem dL_law_309 : decode cL_law 309 = .ok (.iload_n 3, 1) := by decide +kernel
theorem dL_law_310 : decode cL_law 310 = .ok (.iconst 2, 1) := by decide +kernel
theorem dL_law_311 : decode cL_law 311 = .ok (.iadd, 1) := by decide +kernel
theorem dL_law_312 : decode cL_law 312 = .ok (.iaload, 1) := by decide +kernel
theorem dL_law_313 : decode cL_law 313 = .ok (.invokevirtual 23, 3) := by decide +kernel
theorem dL_law_316 : decode cL_law 316 = .ok (.aload_n 2, 1) := by decide +kernel
theorem dL_law_317 : decode cL_law 317 = .ok (.aload_n 0, 1) := by decide +kernel
theorem dL_law_318 : decode cL_law 318 = .ok (.iload_n 3, 1) := by decide +kernel
theorem dL_law_319 : decode cL_law 319 = .ok (.iconst 1, 1) := by decide +kernel
theorem dL_law_320 : decode cL_law 320 = .ok (.iadd, 1) := by decide +kernel
theorem dL_law_321 : decode cL_law 321 = .ok (.iaload, 1) := by decide +kernel
theorem dL_law_322 : decode cL_law 322 = .ok (.aload_n 0, 1) := by decide +kernel
theorem dL_law_323 : decode cL_law 323 = .ok (.iload_n 3, 1) := by decide +kernel
theorem dL_law_324 : decode cL_law 324 = .ok (.iconst 2, 1) := by decide +kernel
theorem dL_law_325 : decode cL_law 325 = .ok (.iadd, 1) := by decide +kernel
theorem dL_law_326 : decode cL_law 326 = .ok (.iaload, 1) := by decide +kernel
theorem dL_law_327 : decode cL_law 327 = .ok (.invokevirtual 27, 3) := by decide +kernel
theorem dL_law_330 : decode cL_law 330 = .ok (.if_icmp .eq 1178, 3) := by decide +kernel
theorem dL_law_333 : decode cL_law 333 = .ok (.iconst 0, 1) := by decide +kernel
theorem dL_law_334 : decode cL_law 334 = .ok (.ireturn, 1) := by decide +kernel
theorem dL_law_335 : decode cL_law 335 = .ok (.aload_n 1, 1) := by decide +kernel
theorem dL_law_336 : decode cL_law 336 = .ok (.aload_n 0, 1) := by decide +kernel
theorem dL_law_337 : decode cL_law 337 = .ok (.iload_n 3, 1) := by decide +kernel
theorem dL_law_338 : decode cL_law 338 = .ok (.iconst 1, 1) := by decide +kernel
theorem dL_law_339 : decode cL_law 339 = .ok (.iadd, 1) := by decide +kernel
theorem dL_law_340 : decode cL_law 340 = .ok (.iaload, 1) := by decide +kernel
theorem dL_law_341 : decode cL_law 341 = .ok (.aload_n 0, 1) := by decide +kernel
theorem dL_law_342 : decode cL_law 342 = .ok (.iload_n 3, 1) := by decide +kernel
theorem dL_law_343 : decode cL_law 343 = .ok (.iconst 2, 1) := by decide +kernel
theorem dL_law_344 : decode cL_law 344 = .ok (.iadd, 1) := by decide +kernel
theorem dL_law_345 : decode cL_law 345 = .ok (.iaload, 1) := by decide +kernel
theorem dL_law_346 : decode cL_law 346 = .ok (.invokevirtual 28, 3) := by decide +kernel
theorem dL_law_349 : decode cL_law 349 = .ok (.aload_n 2, 1) := by decide +kernel
theorem dL_law_350 : decode cL_law 350 = .ok (.aload_n 0, 1) := by decide +kernel
theorem dL_law_351 : decode cL_law 351 = .ok (.iload_n 3, 1) := by decide +kernel
theorem dL_law_352 : decode cL_law 352 = .ok (.iconst 1, 1) := by decide +kernel
theorem dL_law_353 : decode cL_law 353 = .ok (.iadd, 1) := by decide +kernel
theorem dL_law_354 : decode cL_law 354 = .ok (.iaload, 1) := by decide +kernel
theorem dL_law_355 : decode cL_law 355 = .ok (.aload_n 0, 1) := by decide +kernel
theorem dL_law_356 : decode cL_law 356 = .ok (.iload_n 3, 1) := by decide +kernel
theorem dL_law_357 : decode cL_law 357 = .ok (.iconst 2, 1) := by decide +kernel
theorem dL_law_358 : decode cL_law 358 = .ok (.iadd, 1) := by decide +kernel
theorem dL_law_359 : decode cL_law 359 = .ok (.iaload, 1) := by decide +kernel
theorem dL_law_360 : decode cL_law 360 = .ok (.invokevirtual 31, 3) := by decide +kernel
theorem dL_law_363 : decode cL_law 363 = .ok (.if_icmp .eq 1145, 3) := by decide +kernel
theorem dL_law_366 : decode cL_law 366 = .ok (.iconst 0, 1) := by decide +kernel
theorem dL_law_367 : decode cL_law 367 = .ok (.ireturn, 1) := by decide +kernel
theorem dL_law_368 : decode cL_law 368 = .ok (.aload_n 1, 1) := by decide +kernel
theorem dL_law_369 : decode cL_law 369 = .ok (.aload_n 0, 1) := by decide +kernel
theorem dL_law_370 : decode cL_law 370 = .ok (.iload_n 3, 1) := by decide +kernel
theorem dL_law_371 : decode cL_law 371 = .ok (.iconst 1, 1) := by decide +kernel
theorem dL_law_372 : decode cL_law 372 = .ok (.iadd, 1) := by decide +kernel
theorem dL_law_373 : decode cL_law 373 = .ok (.iaload, 1) := by decide +kernel
theorem dL_law_374 : decode cL_law 374 = .ok (.aload_n 0, 1) := by decide +kernel
theorem dL_law_375 : decode cL_law 375 = .ok (.iload_n 3, 1) := by decide +kernel
theorem dL_law_376 : decode cL_law 376 = .ok (.iconst 2, 1) := by decide +kernel
theorem dL_law_377 : decode cL_law 377 = .ok (.iadd, 1) := by decide +kernel
theorem dL_law_378 : decode cL_law 378 = .ok (.iaload, 1) := by decide +kernel
theorem dL_law_379 : decode cL_law 379 = .ok (.invokevirtual 32, 3) := by decide +kernel
theorem dL_law_382 : decode cL_law 382 = .ok (.aload_n 2, 1) := by decide +kernel
theorem dL_law_383 : decode cL_law 383 = .ok (.aload_n 0, 1) := by decide +kernel
theorem dL_law_384 : decode cL_law 384 = .ok (.iload_n 3, 1) := by decide +kernel
theorem dL_law_385 : decode cL_law 385 = .ok (.iconst 1, 1) := by decide +kernel
theorem dL_law_386 : decode cL_law 386 = .ok (.iadd, 1) := by decide +kernel
theorem dL_law_387 : decode cL_law 387 = .ok (.iaload, 1) := by decide +kernel
theorem dL_law_388 : decode cL_law 388 = .ok (.aload_n 0, 1) := by decide +kernel
theorem dL_law_389 : decode cL_law 389 = .ok (.iload_n 3, 1) := by decide +kernel
theorem dL_law_390 : decode cL_law 390 = .ok (.iconst 2, 1) := by decide +kernel
theorem dL_law_391 : decode cL_law 391 = .ok (.iadd, 1) := by decide +kernel
theorem dL_law_392 : decode cL_law 392 = .ok (.iaload, 1) := by decide +kernel
theorem dL_law_393 : decode cL_law 393 = .ok (.invokevirtual 35, 3) := by decide +kernel
theorem dL_law_396 : decode cL_law 396 = .ok (.if_icmp .eq 1112, 3) := by decide +kernel
theorem dL_law_399 : decode cL_law 399 = .ok (.iconst 0, 1) := by decide +kernel
theorem dL_law_400 : decode cL_law 400 = .ok (.ireturn, 1) := by decide +kernel
theorem dL_law_401 : decode cL_law 401 = .ok (.aload_n 1, 1) := by decide +kernel
theorem dL_law_402 : decode cL_law 402 = .ok (.invokevirtual 36, 3) := by decide +kernel
theorem dL_law_405 : decode cL_law 405 = .ok (.aload_n 2, 1) := by decide +kernel
theorem dL_law_406 : decode cL_law 406 = .ok (.invokevirtual 40, 3) := by decide +kernel
theorem dL_law_409 : decode cL_law 409 = .ok (.if_icmp .eq 1099, 3) := by decide +kernel
theorem dL_law_412 : decode cL_law 412 = .ok (.iconst 0, 1) := by decide +kernel
theorem dL_law_413 : decode cL_law 413 = .ok (.ireturn, 1) := by decide +kernel
theorem dL_law_414 : decode cL_law 414 = .ok (.aload_n 1, 1) := by decide +kernel
theorem dL_law_415 : decode cL_law 415 = .ok (.aload_n 0, 1) := by decide +kernel
theorem dL_law_416 : decode cL_law 416 = .ok (.iload_n 3, 1) := by decide +kernel
theorem dL_law_417 : decode cL_law 417 = .ok (.iconst 1, 1) := by decide +kernel
theorem dL_law_418 : decode cL_law 418 = .ok (.iadd, 1) := by decide +kernel
theorem dL_law_419 : decode cL_law 419 = .ok (.iaload, 1) := by decide +kernel
theorem dL_law_420 : decode cL_law 420 = .ok (.invokevirtual 41, 3) := by decide +kernel
theorem dL_law_423 : decode cL_law 423 = .ok (.aload_n 2, 1) := by decide +kernel
theorem dL_law_424 : decode cL_law 424 = .ok (.aload_n 0, 1) := by decide +kernel
theorem dL_law_425 : decode cL_law 425 = .ok (.iload_n 3, 1) := by decide +kernel
theorem dL_law_426 : decode cL_law 426 = .ok (.iconst 1, 1) := by decide +kernel
theorem dL_law_427 : decode cL_law 427 = .ok (.iadd, 1) := by decide +kernel
theorem dL_law_428 : decode cL_law 428 = .ok (.iaload, 1) := by decide +kernel
theorem dL_law_429 : decode cL_law 429 = .ok (.invokevirtual 44, 3) := by decide +kernel
theorem dL_law_432 : decode cL_law 432 = .ok (.if_icmp .eq 1076, 3) := by decide +kernel
theorem dL_law_435 : decode cL_law 435 = .ok (.iconst 0, 1) := by decide +kernel
theorem dL_law_436 : decode cL_law 436 = .ok (.ireturn, 1) := by decide +kernel
theorem dL_law_437 : decode cL_law 437 = .ok (.aload_n 1, 1) := by decide +kernel
theorem dL_law_438 : decode cL_law 438 = .ok (.aload_n 0, 1) := by decide +kernel
theorem dL_law_439 : decode cL_law 439 = .ok (.iload_n 3, 1) := by decide +kernel
theorem dL_law_440 : decode cL_law 440 = .ok (.iconst 1, 1) := by decide +kernel
theorem dL_law_441 : decode cL_law 441 = .ok (.iadd, 1) := by decide +kernel
theorem dL_law_442 : decode cL_law 442 = .ok (.iaload, 1) := by decide +kernel
theorem dL_law_443 : decode cL_law 443 = .ok (.invokevirtual 45, 3) := by decide +kernel
theorem dL_law_446 : decode cL_law 446 = .ok (.aload_n 2, 1) := by decide +kernel
theorem dL_law_447 : decode cL_law 447 = .ok (.aload_n 0, 1) := by decide +kernel
theorem dL_law_448 : decode cL_law 448 = .ok (.iload_n 3, 1) := by decide +kernel
theorem dL_law_449 : decode cL_law 449 = .ok (.iconst 1, 1) := by decide +kernel
theorem dL_law_450 : decode cL_law 450 = .ok (.iadd, 1) := by decide +kernel
theorem dL_law_451 : decode cL_law 451 = .ok (.iaload, 1) := by decide +kernel
theorem dL_law_452 : decode cL_law 452 = .ok (.invokevirtual 48, 3) := by decide +kernel
theorem dL_law_455 : decode cL_law 455 = .ok (.if_icmp .eq 1053, 3) := by decide +kernel
theorem dL_law_458 : decode cL_law 458 = .ok (.iconst 0, 1) := by decide +kernel
theorem dL_law_459 : decode cL_law 459 = .ok (.ireturn, 1) := by decide +kernel
theorem dL_law_460 : decode cL_law 460 = .ok (.aload_n 1, 1) := by decide +kernel
theorem dL_law_461 : decode cL_law 461 = .ok (.aload_n 0, 1) := by decide +kernel
theorem dL_law_462 : decode cL_law 462 = .ok (.iload_n 3, 1) := by decide +kernel
theorem dL_law_463 : decode cL_law 463 = .ok (.iconst 1, 1) := by decide +kernel
theorem dL_law_464 : decode cL_law 464 = .ok (.iadd, 1) := by decide +kernel
theorem dL_law_465 : decode cL_law 465 = .ok (.iaload, 1) := by decide +kernel
theorem dL_law_466 : decode cL_law 466 = .ok (.aload_n 0, 1) := by decide +kernel
theorem dL_law_467 : decode cL_law 467 = .ok (.iload_n 3, 1) := by decide +kernel
theorem dL_law_468 : decode cL_law 468 = .ok (.iconst 2, 1) := by decide +kernel
theorem dL_law_469 : decode cL_law 469 = .ok (.iadd, 1) := by decide +kernel
theorem dL_law_470 : decode cL_law 470 = .ok (.iaload, 1) := by decide +kernel
theorem dL_law_471 : decode cL_law 471 = .ok (.aload_n 0, 1) := by decide +kernel
theorem dL_law_472 : decode cL_law 472 = .ok (.iload_n 3, 1) := by decide +kernel
theorem dL_law_473 : decode cL_law 473 = .ok (.iconst 3, 1) := by decide +kernel
theorem dL_law_474 : decode cL_law 474 = .ok (.iadd, 1) := by decide +kernel
theorem dL_law_475 : decode cL_law 475 = .ok (.iaload, 1) := by decide +kernel
theorem dL_law_476 : decode cL_law 476 = .ok (.invokevirtual 49, 3) := by decide +kernel
theorem dL_law_479 : decode cL_law 479 = .ok (.aload_n 2, 1) := by decide +kernel
theorem dL_law_480 : decode cL_law 480 = .ok (.aload_n 0, 1) := by decide +kernel
theorem dL_law_481 : decode cL_law 481 = .ok (.iload_n 3, 1) := by decide +kernel
theorem dL_law_482 : decode cL_law 482 = .ok (.iconst 1, 1) := by decide +kernel
theorem dL_law_483 : decode cL_law 483 = .ok (.iadd, 1) := by decide +kernel
theorem dL_law_484 : decode cL_law 484 = .ok (.iaload, 1) := by decide +kernel
theorem dL_law_485 : decode cL_law 485 = .ok (.aload_n 0, 1) := by decide +kernel
theorem dL_law_486 : decode cL_law 486 = .ok (.iload_n 3, 1) := by decide +kernel
theorem dL_law_487 : decode cL_law 487 = .ok (.iconst 2, 1) := by decide +kernel
theorem dL_law_488 : decode cL_law 488 = .ok (.iadd, 1) := by decide +kernel
theorem dL_law_489 : decode cL_law 489 = .ok (.iaload, 1) := by decide +kernel
theorem dL_law_490 : decode cL_law 490 = .ok (.aload_n 0, 1) := by decide +kernel
theorem dL_law_491 : decode cL_law 491 = .ok (.iload_n 3, 1) := by decide +kernel
theorem dL_law_492 : decode cL_law 492 = .ok (.iconst 3, 1) := by decide +kernel
theorem dL_law_493 : decode cL_law 493 = .ok (.iadd, 1) := by decide +kernel
theorem dL_law_494 : decode cL_law 494 = .ok (.iaload, 1) := by decide +kernel
theorem dL_law_495 : decode cL_law 495 = .ok (.invokevirtual 53, 3) := by decide +kernel
theorem dL_law_498 : decode cL_law 498 = .ok (.if_icmp .eq 1010, 3) := by decide +kernel
theorem dL_law_501 : decode cL_law 501 = .ok (.iconst 0, 1) := by decide +kernel
theorem dL_law_502 : decode cL_law 502 = .ok (.ireturn, 1) := by decide +kernel
theorem dL_law_503 : decode cL_law 503 = .ok (.aload_n 1, 1) := by decide +kernel
theorem dL_law_504 : decode cL_law 504 = .ok (.aload_n 0, 1) := by decide +kernel
theorem dL_law_505 : decode cL_law 505 = .ok (.iload_n 3, 1) := by decide +kernel
theorem dL_law_506 : decode cL_law 506 = .ok (.iconst 1, 1) := by decide +kernel
theorem dL_law_507 : decode cL_law 507 = .ok (.iadd, 1) := by decide +kernel
theorem dL_law_508 : decode cL_law 508 = .ok (.iaload, 1) := by decide +kernel
theorem dL_law_509 : decode cL_law 509 = .ok (.aload_n 0, 1) := by decide +kernel
theorem dL_law_510 : decode cL_law 510 = .ok (.iload_n 3, 1) := by decide +kernel
theorem dL_law_511 : decode cL_law 511 = .ok (.iconst 2, 1) := by decide +kernel
theorem dL_law_512 : decode cL_law 512 = .ok (.iadd, 1) := by decide +kernel
theorem dL_law_513 : decode cL_law 513 = .ok (.iaload, 1) := by decide +kernel
theorem dL_law_514 : decode cL_law 514 = .ok (.invokevirtual 54, 3) := by decide +kernel
theorem dL_law_517 : decode cL_law 517 = .ok (.aload_n 2, 1) := by decide +kernel
theorem dL_law_518 : decode cL_law 518 = .ok (.aload_n 0, 1) := by decide +kernel
theorem dL_law_519 : decode cL_law 519 = .ok (.iload_n 3, 1) := by decide +kernel
theorem dL_law_520 : decode cL_law 520 = .ok (.iconst 1, 1) := by decide +kernel
theorem dL_law_521 : decode cL_law 521 = .ok (.iadd, 1) := by decide +kernel
theorem dL_law_522 : decode cL_law 522 = .ok (.iaload, 1) := by decide +kernel
theorem dL_law_523 : decode cL_law 523 = .ok (.aload_n 0, 1) := by decide +kernel
theorem dL_law_524 : decode cL_law 524 = .ok (.iload_n 3, 1) := by decide +kernel
theorem dL_law_525 : decode cL_law 525 = .ok (.iconst 2, 1) := by decide +kernel
theorem dL_law_526 : decode cL_law 526 = .ok (.iadd, 1) := by decide +kernel
theorem dL_law_527 : decode cL_law 527 = .ok (.iaload, 1) := by decide +kernel
theorem dL_law_528 : decode cL_law 528 = .ok (.invokevirtual 57, 3) := by decide +kernel
theorem dL_law_531 : decode cL_law 531 = .ok (.if_icmp .eq 977, 3) := by decide +kernel
theorem dL_law_534 : decode cL_law 534 = .ok (.iconst 0, 1) := by decide +kernel
theorem dL_law_535 : decode cL_law 535 = .ok (.ireturn, 1) := by decide +kernel
theorem dL_law_536 : decode cL_law 536 = .ok (.aload_n 1, 1) := by decide +kernel
theorem dL_law_537 : decode cL_law 537 = .ok (.aload_n 0, 1) := by decide +kernel
theorem dL_law_538 : decode cL_law 538 = .ok (.iload_n 3, 1) := by decide +kernel
theorem dL_law_539 : decode cL_law 539 = .ok (.iconst 1, 1) := by decide +kernel
theorem dL_law_540 : decode cL_law 540 = .ok (.iadd, 1) := by decide +kernel
theorem dL_law_541 : decode cL_law 541 = .ok (.iaload, 1) := by decide +kernel
theorem dL_law_542 : decode cL_law 542 = .ok (.aload_n 0, 1) := by decide +kernel
theorem dL_law_543 : decode cL_law 543 = .ok (.iload_n 3, 1) := by decide +kernel
theorem dL_law_544 : decode cL_law 544 = .ok (.iconst 2, 1) := by decide +kernel
theorem dL_law_545 : decode cL_law 545 = .ok (.iadd, 1) := by decide +kernel
theorem dL_law_546 : decode cL_law 546 = .ok (.iaload, 1) := by decide +kernel
theorem dL_law_547 : decode cL_law 547 = .ok (.invokevirtual 58, 3) := by decide +kernel
theorem dL_law_550 : decode cL_law 550 = .ok (.aload_n 2, 1) := by decide +kernel
theorem dL_law_551 : decode cL_law 551 = .ok (.aload_n 0, 1) := by decide +kernel
theorem dL_law_552 : decode cL_law 552 = .ok (.iload_n 3, 1) := by decide +kernel
theorem dL_law_553 : decode cL_law 553 = .ok (.iconst 1, 1) := by decide +kernel
theorem dL_law_554 : decode cL_law 554 = .ok (.iadd, 1) := by decide +kernel
theorem dL_law_555 : decode cL_law 555 = .ok (.iaload, 1) := by decide +kernel
theorem dL_law_556 : decode cL_law 556 = .ok (.aload_n 0, 1) := by decide +kernel
theorem dL_law_557 : decode cL_law 557 = .ok (.iload_n 3, 1) := by decide +kernel
theorem dL_law_558 : decode cL_law 558 = .ok (.iconst 2, 1) := by decide +kernel
theorem dL_law_559 : decode cL_law 559 = .ok (.iadd, 1) := by decide +kernel
theorem dL_law_560 : decode cL_law 560 = .ok (.iaload, 1) := by decide +kernel
theorem dL_law_561 : decode cL_law 561 = .ok (.invokevirtual 61, 3) := by decide +kernel
theorem dL_law_564 : decode cL_law 564 = .ok (.if_icmp .eq 944, 3) := by decide +kernel
theorem dL_law_567 : decode cL_law 567 = .ok (.iconst 0, 1) := by decide +kernel
theorem dL_law_568 : decode cL_law 568 = .ok (.ireturn, 1) := by decide +kernel
theorem dL_law_569 : decode cL_law 569 = .ok (.aload_n 1, 1) := by decide +kernel
theorem dL_law_570 : decode cL_law 570 = .ok (.aload_n 0, 1) := by decide +kernel
theorem dL_law_571 : decode cL_law 571 = .ok (.iload_n 3, 1) := by decide +kernel
theorem dL_law_572 : decode cL_law 572 = .ok (.iconst 1, 1) := by decide +kernel
theorem dL_law_573 : decode cL_law 573 = .ok (.iadd, 1) := by decide +kernel
theorem dL_law_574 : decode cL_law 574 = .ok (.iaload, 1) := by decide +kernel
theorem dL_law_575 : decode cL_law 575 = .ok (.invokevirtual 62, 3) := by decide +kernel
theorem dL_law_578 : decode cL_law 578 = .ok (.aload_n 2, 1) := by decide +kernel
theorem dL_law_579 : decode cL_law 579 = .ok (.aload_n 0, 1) := by decide +kernel
theorem dL_law_580 : decode cL_law 580 = .ok (.iload_n 3, 1) := by decide +kernel
theorem dL_law_581 : decode cL_law 581 = .ok (.iconst 1, 1) := by decide +kernel
theorem dL_law_582 : decode cL_law 582 = .ok (.iadd, 1) := by decide +kernel
theorem dL_law_583 : decode cL_law 583 = .ok (.iaload, 1) := by decide +kernel
theorem dL_law_584 : decode cL_law 584 = .ok (.invokevirtual 65, 3) := by decide +kernel
theorem dL_law_587 : decode cL_law 587 = .ok (.if_icmp .eq 921, 3) := by decide +kernel
theorem dL_law_590 : decode cL_law 590 = .ok (.iconst 0, 1) := by decide +kernel
theorem dL_law_591 : decode cL_law 591 = .ok (.ireturn, 1) := by decide +kernel
theorem dL_law_592 : decode cL_law 592 = .ok (.aload_n 1, 1) := by decide +kernel
theorem dL_law_593 : decode cL_law 593 = .ok (.aload_n 0, 1) := by decide +kernel
theorem dL_law_594 : decode cL_law 594 = .ok (.iload_n 3, 1) := by decide +kernel
theorem dL_law_595 : decode cL_law 595 = .ok (.iconst 1, 1) := by decide +kernel
theorem dL_law_596 : decode cL_law 596 = .ok (.iadd, 1) := by decide +kernel
theorem dL_law_597 : decode cL_law 597 = .ok (.iaload, 1) := by decide +kernel
theorem dL_law_598 : decode cL_law 598 = .ok (.aload_n 0, 1) := by decide +kernel
theorem dL_law_599 : decode cL_law 599 = .ok (.iload_n 3, 1) := by decide +kernel
theorem dL_law_600 : decode cL_law 600 = .ok (.iconst 2, 1) := by decide +kernel
theorem dL_law_601 : decode cL_law 601 = .ok (.iadd, 1) := by decide +kernel
theorem dL_law_602 : decode cL_law 602 = .ok (.iaload, 1) := by decide +kernel
theorem dL_law_603 : decode cL_law 603 = .ok (.invokevirtual 66, 3) := by decide +kernel
theorem dL_law_606 : decode cL_law 606 = .ok (.aload_n 2, 1) := by decide +kernel
theorem dL_law_607 : decode cL_law 607 = .ok (.aload_n 0, 1) := by decide +kernel
theorem dL_law_608 : decode cL_law 608 = .ok (.iload_n 3, 1) := by decide +kernel
theorem dL_law_609 : decode cL_law 609 = .ok (.iconst 1, 1) := by decide +kernel
theorem dL_law_610 : decode cL_law 610 = .ok (.iadd, 1) := by decide +kernel
theorem dL_law_611 : decode cL_law 611 = .ok (.iaload, 1) := by decide +kernel
theorem dL_law_612 : decode cL_law 612 = .ok (.aload_n 0, 1) := by decide +kernel
theorem dL_law_613 : decode cL_law 613 = .ok (.iload_n 3, 1) := by decide +kernel
theorem dL_law_614 : decode cL_law 614 = .ok (.iconst 2, 1) := by decide +kernel
theorem dL_law_615 : decode cL_law 615 = .ok (.iadd, 1) := by decide +kernel
theorem dL_law_616 : decode cL_law 616 = .ok (.iaload, 1) := by decide +kernel
theorem dL_law_617 : decode cL_law 617 = .ok (.invokevirtual 69, 3) := by decide +kernel
theorem dL_law_620 : decode cL_law 620 = .ok (.if_icmp .eq 888, 3) := by decide +kernel
theorem dL_law_623 : decode cL_law 623 = .ok (.iconst 0, 1) := by decide +kernel
theorem dL_law_624 : decode cL_law 624 = .ok (.ireturn, 1) := by decide +kernel
theorem dL_law_625 : decode cL_law 625 = .ok (.aload_n 1, 1) := by decide +kernel
theorem dL_law_626 : decode cL_law 626 = .ok (.aload_n 0, 1) := by decide +kernel
theorem dL_law_627 : decode cL_law 627 = .ok (.iload_n 3, 1) := by decide +kernel
theorem dL_law_628 : decode cL_law 628 = .ok (.iconst 1, 1) := by decide +kernel
theorem dL_law_629 : decode cL_law 629 = .ok (.iadd, 1) := by decide +kernel
theorem dL_law_630 : decode cL_law 630 = .ok (.iaload, 1) := by decide +kernel
theorem dL_law_631 : decode cL_law 631 = .ok (.aload_n 0, 1) := by decide +kernel
theorem dL_law_632 : decode cL_law 632 = .ok (.iload_n 3, 1) := by decide +kernel
theorem dL_law_633 : decode cL_law 633 = .ok (.iconst 2, 1) := by decide +kernel
theorem dL_law_634 : decode cL_law 634 = .ok (.iadd, 1) := by decide +kernel
theorem dL_law_635 : decode cL_law 635 = .ok (.iaload, 1) := by decide +kernel
theorem dL_law_636 : decode cL_law 636 = .ok (.invokevirtual 70, 3) := by decide +kernel
theorem dL_law_639 : decode cL_law 639 = .ok (.aload_n 2, 1) := by decide +kernel
theorem dL_law_640 : decode cL_law 640 = .ok (.aload_n 0, 1) := by decide +kernel
theorem dL_law_641 : decode cL_law 641 = .ok (.iload_n 3, 1) := by decide +kernel
theorem dL_law_642 : decode cL_law 642 = .ok (.iconst 1, 1) := by decide +kernel
theorem dL_law_643 : decode cL_law 643 = .ok (.iadd, 1) := by decide +kernel
theorem dL_law_644 : decode cL_law 644 = .ok (.iaload, 1) := by decide +kernel
theorem dL_law_645 : decode cL_law 645 = .ok (.aload_n 0, 1) := by decide +kernel
theorem dL_law_646 : decode cL_law 646 = .ok (.iload_n 3, 1) := by decide +kernel
theorem dL_law_647 : decode cL_law 647 = .ok (.iconst 2, 1) := by decide +kernel
theorem dL_law_648 : decode cL_law 648 = .ok (.iadd, 1) := by decide +kernel
theorem dL_law_649 : decode cL_law 649 = .ok (.iaload, 1) := by decide +kernel
theorem dL_law_650 : decode cL_law 650 = .ok (.invokevirtual 73, 3) := by decide +kernel
theorem dL_law_653 : decode cL_law 653 = .ok (.if_icmp .eq 855, 3) := by decide +kernel
theorem dL_law_656 : decode cL_law 656 = .ok (.iconst 0, 1) := by decide +kernel
theorem dL_law_657 : decode cL_law 657 = .ok (.ireturn, 1) := by decide +kernel
theorem dL_law_658 : decode cL_law 658 = .ok (.aload_n 1, 1) := by decide +kernel
theorem dL_law_659 : decode cL_law 659 = .ok (.aload_n 0, 1) := by decide +kernel
theorem dL_law_660 : decode cL_law 660 = .ok (.iload_n 3, 1) := by decide +kernel
theorem dL_law_661 : decode cL_law 661 = .ok (.iconst 1, 1) := by decide +kernel
theorem dL_law_662 : decode cL_law 662 = .ok (.iadd, 1) := by decide +kernel
theorem dL_law_663 : decode cL_law 663 = .ok (.iaload, 1) := by decide +kernel
theorem dL_law_664 : decode cL_law 664 = .ok (.i2l, 1) := by decide +kernel
theorem dL_law_665 : decode cL_law 665 = .ok (.bipush 32, 2) := by decide +kernel
theorem dL_law_667 : decode cL_law 667 = .ok (.lshl, 1) := by decide +kernel
theorem dL_law_668 : decode cL_law 668 = .ok (.aload_n 0, 1) := by decide +kernel
theorem dL_law_669 : decode cL_law 669 = .ok (.iload_n 3, 1) := by decide +kernel
theorem dL_law_670 : decode cL_law 670 = .ok (.iconst 2, 1) := by decide +kernel
theorem dL_law_671 : decode cL_law 671 = .ok (.iadd, 1) := by decide +kernel
theorem dL_law_672 : decode cL_law 672 = .ok (.iaload, 1) := by decide +kernel
theorem dL_law_673 : decode cL_law 673 = .ok (.i2l, 1) := by decide +kernel
theorem dL_law_674 : decode cL_law 674 = .ok (.ldc2_w 74, 3) := by decide +kernel
theorem dL_law_677 : decode cL_law 677 = .ok (.land, 1) := by decide +kernel
theorem dL_law_678 : decode cL_law 678 = .ok (.lor, 1) := by decide +kernel
theorem dL_law_679 : decode cL_law 679 = .ok (.aload_n 0, 1) := by decide +kernel
theorem dL_law_680 : decode cL_law 680 = .ok (.iload_n 3, 1) := by decide +kernel
theorem dL_law_681 : decode cL_law 681 = .ok (.iconst 3, 1) := by decide +kernel
theorem dL_law_682 : decode cL_law 682 = .ok (.iadd, 1) := by decide +kernel
theorem dL_law_683 : decode cL_law 683 = .ok (.iaload, 1) := by decide +kernel
theorem dL_law_684 : decode cL_law 684 = .ok (.invokevirtual 76, 3) := by decide +kernel
theorem dL_law_687 : decode cL_law 687 = .ok (.aload_n 2, 1) := by decide +kernel
theorem dL_law_688 : decode cL_law 688 = .ok (.aload_n 0, 1) := by decide +kernel
theorem dL_law_689 : decode cL_law 689 = .ok (.iload_n 3, 1) := by decide +kernel
theorem dL_law_690 : decode cL_law 690 = .ok (.iconst 1, 1) := by decide +kernel
theorem dL_law_691 : decode cL_law 691 = .ok (.iadd, 1) := by decide +kernel
theorem dL_law_692 : decode cL_law 692 = .ok (.iaload, 1) := by decide +kernel
theorem dL_law_693 : decode cL_law 693 = .ok (.i2l, 1) := by decide +kernel
theorem dL_law_694 : decode cL_law 694 = .ok (.bipush 32, 2) := by decide +kernel
theorem dL_law_696 : decode cL_law 696 = .ok (.lshl, 1) := by decide +kernel
theorem dL_law_697 : decode cL_law 697 = .ok (.aload_n 0, 1) := by decide +kernel
theorem dL_law_698 : decode cL_law 698 = .ok (.iload_n 3, 1) := by decide +kernel
theorem dL_law_699 : decode cL_law 699 = .ok (.iconst 2, 1) := by decide +kernel
theorem dL_law_700 : decode cL_law 700 = .ok (.iadd, 1) := by decide +kernel
theorem dL_law_701 : decode cL_law 701 = .ok (.iaload, 1) := by decide +kernel
theorem dL_law_702 : decode cL_law 702 = .ok (.i2l, 1) := by decide +kernel
theorem dL_law_703 : decode cL_law 703 = .ok (.ldc2_w 74, 3) := by decide +kernel
theorem dL_law_706 : decode cL_law 706 = .ok (.land, 1) := by decide +kernel
theorem dL_law_707 : decode cL_law 707 = .ok (.lor, 1) := by decide +kernel
theorem dL_law_708 : decode cL_law 708 = .ok (.aload_n 0, 1) := by decide +kernel
theorem dL_law_709 : decode cL_law 709 = .ok (.iload_n 3, 1) := by decide +kernel
theorem dL_law_710 : decode cL_law 710 = .ok (.iconst 3, 1) := by decide +kernel
theorem dL_law_711 : decode cL_law 711 = .ok (.iadd, 1) := by decide +kernel
theorem dL_law_712 : decode cL_law 712 = .ok (.iaload, 1) := by decide +kernel
theorem dL_law_713 : decode cL_law 713 = .ok (.invokevirtual 80, 3) := by decide +kernel
theorem dL_law_716 : decode cL_law 716 = .ok (.if_icmp .eq 792, 3) := by decide +kernel
theorem dL_law_719 : decode cL_law 719 = .ok (.iconst 0, 1) := by decide +kernel
theorem dL_law_720 : decode cL_law 720 = .ok (.ireturn, 1) := by decide +kernel
theorem dL_law_721 : decode cL_law 721 = .ok (.aload_n 1, 1) := by decide +kernel
theorem dL_law_722 : decode cL_law 722 = .ok (.invokevirtual 81, 3) := by decide +kernel
theorem dL_law_725 : decode cL_law 725 = .ok (.aload_n 2, 1) := by decide +kernel
theorem dL_law_726 : decode cL_law 726 = .ok (.invokevirtual 84, 3) := by decide +kernel
theorem dL_law_729 : decode cL_law 729 = .ok (.if_icmp .eq 779, 3) := by decide +kernel
theorem dL_law_732 : decode cL_law 732 = .ok (.iconst 0, 1) := by decide +kernel
theorem dL_law_733 : decode cL_law 733 = .ok (.ireturn, 1) := by decide +kernel
theorem dL_law_734 : decode cL_law 734 = .ok (.aload_n 1, 1) := by decide +kernel
theorem dL_law_735 : decode cL_law 735 = .ok (.invokevirtual 85, 3) := by decide +kernel
theorem dL_law_738 : decode cL_law 738 = .ok (.aload_n 2, 1) := by decide +kernel
theorem dL_law_739 : decode cL_law 739 = .ok (.invokevirtual 88, 3) := by decide +kernel
theorem dL_law_742 : decode cL_law 742 = .ok (.if_icmp .eq 766, 3) := by decide +kernel
theorem dL_law_745 : decode cL_law 745 = .ok (.iconst 0, 1) := by decide +kernel
theorem dL_law_746 : decode cL_law 746 = .ok (.ireturn, 1) := by decide +kernel
theorem dL_law_747 : decode cL_law 747 = .ok (.aload_n 1, 1) := by decide +kernel
theorem dL_law_748 : decode cL_law 748 = .ok (.aload_n 0, 1) := by decide +kernel
theorem dL_law_749 : decode cL_law 749 = .ok (.iload_n 3, 1) := by decide +kernel
theorem dL_law_750 : decode cL_law 750 = .ok (.iconst 1, 1) := by decide +kernel
theorem dL_law_751 : decode cL_law 751 = .ok (.iadd, 1) := by decide +kernel
theorem dL_law_752 : decode cL_law 752 = .ok (.iaload, 1) := by decide +kernel
theorem dL_law_753 : decode cL_law 753 = .ok (.invokevirtual 89, 3) := by decide +kernel
theorem dL_law_756 : decode cL_law 756 = .ok (.aload_n 2, 1) := by decide +kernel
theorem dL_law_757 : decode cL_law 757 = .ok (.aload_n 0, 1) := by decide +kernel
theorem dL_law_758 : decode cL_law 758 = .ok (.iload_n 3, 1) := by decide +kernel
theorem dL_law_759 : decode cL_law 759 = .ok (.iconst 1, 1) := by decide +kernel
theorem dL_law_760 : decode cL_law 760 = .ok (.iadd, 1) := by decide +kernel
theorem dL_law_761 : decode cL_law 761 = .ok (.iaload, 1) := by decide +kernel
theorem dL_law_762 : decode cL_law 762 = .ok (.invokevirtual 92, 3) := by decide +kernel
theorem dL_law_765 : decode cL_law 765 = .ok (.if_icmp .eq 743, 3) := by decide +kernel
theorem dL_law_768 : decode cL_law 768 = .ok (.iconst 0, 1) := by decide +kernel
theorem dL_law_769 : decode cL_law 769 = .ok (.ireturn, 1) := by decide +kernel
theorem dL_law_770 : decode cL_law 770 = .ok (.aload_n 1, 1) := by decide +kernel
theorem dL_law_771 : decode cL_law 771 = .ok (.aload_n 0, 1) := by decide +kernel
theorem dL_law_772 : decode cL_law 772 = .ok (.iload_n 3, 1) := by decide +kernel
theorem dL_law_773 : decode cL_law 773 = .ok (.iconst 1, 1) := by decide +kernel
theorem dL_law_774 : decode cL_law 774 = .ok (.iadd, 1) := by decide +kernel
theorem dL_law_775 : decode cL_law 775 = .ok (.iaload, 1) := by decide +kernel
theorem dL_law_776 : decode cL_law 776 = .ok (.invokevirtual 93, 3) := by decide +kernel
theorem dL_law_779 : decode cL_law 779 = .ok (.aload_n 2, 1) := by decide +kernel
theorem dL_law_780 : decode cL_law 780 = .ok (.aload_n 0, 1) := by decide +kernel
theorem dL_law_781 : decode cL_law 781 = .ok (.iload_n 3, 1) := by decide +kernel
theorem dL_law_782 : decode cL_law 782 = .ok (.iconst 1, 1) := by decide +kernel
theorem dL_law_783 : decode cL_law 783 = .ok (.iadd, 1) := by decide +kernel
theorem dL_law_784 : decode cL_law 784 = .ok (.iaload, 1) := by decide +kernel
theorem dL_law_785 : decode cL_law 785 = .ok (.invokevirtual 96, 3) := by decide +kernel
theorem dL_law_788 : decode cL_law 788 = .ok (.if_icmp .eq 720, 3) := by decide +kernel
theorem dL_law_791 : decode cL_law 791 = .ok (.iconst 0, 1) := by decide +kernel
theorem dL_law_792 : decode cL_law 792 = .ok (.ireturn, 1) := by decide +kernel
theorem dL_law_793 : decode cL_law 793 = .ok (.aload_n 1, 1) := by decide +kernel
theorem dL_law_794 : decode cL_law 794 = .ok (.aload_n 0, 1) := by decide +kernel
theorem dL_law_795 : decode cL_law 795 = .ok (.iload_n 3, 1) := by decide +kernel
theorem dL_law_796 : decode cL_law 796 = .ok (.iconst 1, 1) := by decide +kernel
theorem dL_law_797 : decode cL_law 797 = .ok (.iadd, 1) := by decide +kernel
theorem dL_law_798 : decode cL_law 798 = .ok (.iaload, 1) := by decide +kernel
theorem dL_law_799 : decode cL_law 799 = .ok (.aload_n 0, 1) := by decide +kernel
theorem dL_law_800 : decode cL_law 800 = .ok (.iload_n 3, 1) := by decide +kernel
theorem dL_law_801 : decode cL_law 801 = .ok (.iconst 2, 1) := by decide +kernel
theorem dL_law_802 : decode cL_law 802 = .ok (.iadd, 1) := by decide +kernel
theorem dL_law_803 : decode cL_law 803 = .ok (.iaload, 1) := by decide +kernel
theorem dL_law_804 : decode cL_law 804 = .ok (.aload_n 0, 1) := by decide +kernel
theorem dL_law_805 : decode cL_law 805 = .ok (.iload_n 3, 1) := by decide +kernel
theorem dL_law_806 : decode cL_law 806 = .ok (.iconst 3, 1) := by decide +kernel
theorem dL_law_807 : decode cL_law 807 = .ok (.iadd, 1) := by decide +kernel
theorem dL_law_808 : decode cL_law 808 = .ok (.iaload, 1) := by decide +kernel
theorem dL_law_809 : decode cL_law 809 = .ok (.invokevirtual 97, 3) := by decide +kernel
theorem dL_law_812 : decode cL_law 812 = .ok (.aload_n 2, 1) := by decide +kernel
theorem dL_law_813 : decode cL_law 813 = .ok (.aload_n 0, 1) := by decide +kernel
theorem dL_law_814 : decode cL_law 814 = .ok (.iload_n 3, 1) := by decide +kernel
theorem dL_law_815 : decode cL_law 815 = .ok (.iconst 1, 1) := by decide +kernel
theorem dL_law_816 : decode cL_law 816 = .ok (.iadd, 1) := by decide +kernel
theorem dL_law_817 : decode cL_law 817 = .ok (.iaload, 1) := by decide +kernel
theorem dL_law_818 : decode cL_law 818 = .ok (.aload_n 0, 1) := by decide +kernel
theorem dL_law_819 : decode cL_law 819 = .ok (.iload_n 3, 1) := by decide +kernel
theorem dL_law_820 : decode cL_law 820 = .ok (.iconst 2, 1) := by decide +kernel
theorem dL_law_821 : decode cL_law 821 = .ok (.iadd, 1) := by decide +kernel
theorem dL_law_822 : decode cL_law 822 = .ok (.iaload, 1) := by decide +kernel
theorem dL_law_823 : decode cL_law 823 = .ok (.aload_n 0, 1) := by decide +kernel
theorem dL_law_824 : decode cL_law 824 = .ok (.iload_n 3, 1) := by decide +kernel
theorem dL_law_825 : decode cL_law 825 = .ok (.iconst 3, 1) := by decide +kernel
theorem dL_law_826 : decode cL_law 826 = .ok (.iadd, 1) := by decide +kernel
theorem dL_law_827 : decode cL_law 827 = .ok (.iaload, 1) := by decide +kernel
theorem dL_law_828 : decode cL_law 828 = .ok (.invokevirtual 100, 3) := by decide +kernel
theorem dL_law_831 : decode cL_law 831 = .ok (.if_icmp .eq 677, 3) := by decide +kernel
theorem dL_law_834 : decode cL_law 834 = .ok (.iconst 0, 1) := by decide +kernel
theorem dL_law_835 : decode cL_law 835 = .ok (.ireturn, 1) := by decide +kernel
theorem dL_law_836 : decode cL_law 836 = .ok (.aload_n 1, 1) := by decide +kernel
theorem dL_law_837 : decode cL_law 837 = .ok (.aload_n 0, 1) := by decide +kernel
theorem dL_law_838 : decode cL_law 838 = .ok (.iload_n 3, 1) := by decide +kernel
theorem dL_law_839 : decode cL_law 839 = .ok (.iconst 1, 1) := by decide +kernel
theorem dL_law_840 : decode cL_law 840 = .ok (.iadd, 1) := by decide +kernel
theorem dL_law_841 : decode cL_law 841 = .ok (.iaload, 1) := by decide +kernel
theorem dL_law_842 : decode cL_law 842 = .ok (.invokevirtual 101, 3) := by decide +kernel
theorem dL_law_845 : decode cL_law 845 = .ok (.aload_n 2, 1) := by decide +kernel
theorem dL_law_846 : decode cL_law 846 = .ok (.aload_n 0, 1) := by decide +kernel
theorem dL_law_847 : decode cL_law 847 = .ok (.iload_n 3, 1) := by decide +kernel
theorem dL_law_848 : decode cL_law 848 = .ok (.iconst 1, 1) := by decide +kernel
theorem dL_law_849 : decode cL_law 849 = .ok (.iadd, 1) := by decide +kernel
theorem dL_law_850 : decode cL_law 850 = .ok (.iaload, 1) := by decide +kernel
theorem dL_law_851 : decode cL_law 851 = .ok (.invokevirtual 104, 3) := by decide +kernel
theorem dL_law_854 : decode cL_law 854 = .ok (.if_icmp .eq 654, 3) := by decide +kernel
theorem dL_law_857 : decode cL_law 857 = .ok (.iconst 0, 1) := by decide +kernel
theorem dL_law_858 : decode cL_law 858 = .ok (.ireturn, 1) := by decide +kernel
theorem dL_law_859 : decode cL_law 859 = .ok (.aload_n 1, 1) := by decide +kernel
theorem dL_law_860 : decode cL_law 860 = .ok (.invokevirtual 105, 3) := by decide +kernel
theorem dL_law_863 : decode cL_law 863 = .ok (.aload_n 2, 1) := by decide +kernel
theorem dL_law_864 : decode cL_law 864 = .ok (.invokevirtual 108, 3) := by decide +kernel
theorem dL_law_867 : decode cL_law 867 = .ok (.if_icmp .eq 641, 3) := by decide +kernel
theorem dL_law_870 : decode cL_law 870 = .ok (.iconst 0, 1) := by decide +kernel
theorem dL_law_871 : decode cL_law 871 = .ok (.ireturn, 1) := by decide +kernel
theorem dL_law_872 : decode cL_law 872 = .ok (.aload_n 1, 1) := by decide +kernel
theorem dL_law_873 : decode cL_law 873 = .ok (.aload_n 0, 1) := by decide +kernel
theorem dL_law_874 : decode cL_law 874 = .ok (.iload_n 3, 1) := by decide +kernel
theorem dL_law_875 : decode cL_law 875 = .ok (.iconst 1, 1) := by decide +kernel
theorem dL_law_876 : decode cL_law 876 = .ok (.iadd, 1) := by decide +kernel
theorem dL_law_877 : decode cL_law 877 = .ok (.iaload, 1) := by decide +kernel
theorem dL_law_878 : decode cL_law 878 = .ok (.aload_n 0, 1) := by decide +kernel
theorem dL_law_879 : decode cL_law 879 = .ok (.iload_n 3, 1) := by decide +kernel
theorem dL_law_880 : decode cL_law 880 = .ok (.iconst 2, 1) := by decide +kernel
theorem dL_law_881 : decode cL_law 881 = .ok (.iadd, 1) := by decide +kernel
theorem dL_law_882 : decode cL_law 882 = .ok (.iaload, 1) := by decide +kernel
theorem dL_law_883 : decode cL_law 883 = .ok (.invokevirtual 109, 3) := by decide +kernel
theorem dL_law_886 : decode cL_law 886 = .ok (.aload_n 2, 1) := by decide +kernel
theorem dL_law_887 : decode cL_law 887 = .ok (.aload_n 0, 1) := by decide +kernel
theorem dL_law_888 : decode cL_law 888 = .ok (.iload_n 3, 1) := by decide +kernel
theorem dL_law_889 : decode cL_law 889 = .ok (.iconst 1, 1) := by decide +kernel
theorem dL_law_890 : decode cL_law 890 = .ok (.iadd, 1) := by decide +kernel
theorem dL_law_891 : decode cL_law 891 = .ok (.iaload, 1) := by decide +kernel
theorem dL_law_892 : decode cL_law 892 = .ok (.aload_n 0, 1) := by decide +kernel
theorem dL_law_893 : decode cL_law 893 = .ok (.iload_n 3, 1) := by decide +kernel
theorem dL_law_894 : decode cL_law 894 = .ok (.iconst 2, 1) := by decide +kernel
theorem dL_law_895 : decode cL_law 895 = .ok (.iadd, 1) := by decide +kernel
theorem dL_law_896 : decode cL_law 896 = .ok (.iaload, 1) := by decide +kernel
theorem dL_law_897 : decode cL_law 897 = .ok (.invokevirtual 112, 3) := by decide +kernel
theorem dL_law_900 : decode cL_law 900 = .ok (.if_icmp .eq 608, 3) := by decide +kernel
theorem dL_law_903 : decode cL_law 903 = .ok (.iconst 0, 1) := by decide +kernel
theorem dL_law_904 : decode cL_law 904 = .ok (.ireturn, 1) := by decide +kernel
theorem dL_law_905 : decode cL_law 905 = .ok (.aload_n 1, 1) := by decide +kernel
theorem dL_law_906 : decode cL_law 906 = .ok (.aload_n 0, 1) := by decide +kernel
theorem dL_law_907 : decode cL_law 907 = .ok (.iload_n 3, 1) := by decide +kernel
theorem dL_law_908 : decode cL_law 908 = .ok (.iconst 1, 1) := by decide +kernel
theorem dL_law_909 : decode cL_law 909 = .ok (.iadd, 1) := by decide +kernel
theorem dL_law_910 : decode cL_law 910 = .ok (.iaload, 1) := by decide +kernel
theorem dL_law_911 : decode cL_law 911 = .ok (.aload_n 0, 1) := by decide +kernel
theorem dL_law_912 : decode cL_law 912 = .ok (.iload_n 3, 1) := by decide +kernel
theorem dL_law_913 : decode cL_law 913 = .ok (.iconst 2, 1) := by decide +kernel
theorem dL_law_914 : decode cL_law 914 = .ok (.iadd, 1) := by decide +kernel
theorem dL_law_915 : decode cL_law 915 = .ok (.iaload, 1) := by decide +kernel
theorem dL_law_916 : decode cL_law 916 = .ok (.aload_n 0, 1) := by decide +kernel
theorem dL_law_917 : decode cL_law 917 = .ok (.iload_n 3, 1) := by decide +kernel
theorem dL_law_918 : decode cL_law 918 = .ok (.iconst 3, 1) := by decide +kernel
theorem dL_law_919 : decode cL_law 919 = .ok (.iadd, 1) := by decide +kernel
theorem dL_law_920 : decode cL_law 920 = .ok (.iaload, 1) := by decide +kernel
theorem dL_law_921 : decode cL_law 921 = .ok (.invokevirtual 113, 3) := by decide +kernel
theorem dL_law_924 : decode cL_law 924 = .ok (.aload_n 2, 1) := by decide +kernel
theorem dL_law_925 : decode cL_law 925 = .ok (.aload_n 0, 1) := by decide +kernel
theorem dL_law_926 : decode cL_law 926 = .ok (.iload_n 3, 1) := by decide +kernel
theorem dL_law_927 : decode cL_law 927 = .ok (.iconst 1, 1) := by decide +kernel
theorem dL_law_928 : decode cL_law 928 = .ok (.iadd, 1) := by decide +kernel
theorem dL_law_929 : decode cL_law 929 = .ok (.iaload, 1) := by decide +kernel
theorem dL_law_930 : decode cL_law 930 = .ok (.aload_n 0, 1) := by decide +kernel
theorem dL_law_931 : decode cL_law 931 = .ok (.iload_n 3, 1) := by decide +kernel
theorem dL_law_932 : decode cL_law 932 = .ok (.iconst 2, 1) := by decide +kernel
theorem dL_law_933 : decode cL_law 933 = .ok (.iadd, 1) := by decide +kernel
theorem dL_law_934 : decode cL_law 934 = .ok (.iaload, 1) := by decide +kernel
theorem dL_law_935 : decode cL_law 935 = .ok (.aload_n 0, 1) := by decide +kernel
theorem dL_law_936 : decode cL_law 936 = .ok (.iload_n 3, 1) := by decide +kernel
theorem dL_law_937 : decode cL_law 937 = .ok (.iconst 3, 1) := by decide +kernel
theorem dL_law_938 : decode cL_law 938 = .ok (.iadd, 1) := by decide +kernel
theorem dL_law_939 : decode cL_law 939 = .ok (.iaload, 1) := by decide +kernel
theorem dL_law_940 : decode cL_law 940 = .ok (.invokevirtual 116, 3) := by decide +kernel
theorem dL_law_943 : decode cL_law 943 = .ok (.if_icmp .eq 565, 3) := by decide +kernel
theorem dL_law_946 : decode cL_law 946 = .ok (.iconst 0, 1) := by decide +kernel
theorem dL_law_947 : decode cL_law 947 = .ok (.ireturn, 1) := by decide +kernel
theorem dL_law_948 : decode cL_law 948 = .ok (.aload_n 1, 1) := by decide +kernel
theorem dL_law_949 : decode cL_law 949 = .ok (.invokevirtual 117, 3) := by decide +kernel
theorem dL_law_952 : decode cL_law 952 = .ok (.aload_n 2, 1) := by decide +kernel
theorem dL_law_953 : decode cL_law 953 = .ok (.invokevirtual 120, 3) := by decide +kernel
theorem dL_law_956 : decode cL_law 956 = .ok (.if_icmp .eq 552, 3) := by decide +kernel
theorem dL_law_959 : decode cL_law 959 = .ok (.iconst 0, 1) := by decide +kernel
theorem dL_law_960 : decode cL_law 960 = .ok (.ireturn, 1) := by decide +kernel
theorem dL_law_961 : decode cL_law 961 = .ok (.aload_n 1, 1) := by decide +kernel
theorem dL_law_962 : decode cL_law 962 = .ok (.aload_n 0, 1) := by decide +kernel
theorem dL_law_963 : decode cL_law 963 = .ok (.iload_n 3, 1) := by decide +kernel
theorem dL_law_964 : decode cL_law 964 = .ok (.iconst 1, 1) := by decide +kernel
theorem dL_law_965 : decode cL_law 965 = .ok (.iadd, 1) := by decide +kernel
theorem dL_law_966 : decode cL_law 966 = .ok (.iaload, 1) := by decide +kernel
theorem dL_law_967 : decode cL_law 967 = .ok (.aload_n 0, 1) := by decide +kernel
theorem dL_law_968 : decode cL_law 968 = .ok (.iload_n 3, 1) := by decide +kernel
theorem dL_law_969 : decode cL_law 969 = .ok (.iconst 2, 1) := by decide +kernel
theorem dL_law_970 : decode cL_law 970 = .ok (.iadd, 1) := by decide +kernel
theorem dL_law_971 : decode cL_law 971 = .ok (.iaload, 1) := by decide +kernel
theorem dL_law_972 : decode cL_law 972 = .ok (.ifCond .eq 7, 3) := by decide +kernel
theorem dL_law_975 : decode cL_law 975 = .ok (.iconst 1, 1) := by decide +kernel
theorem dL_law_976 : decode cL_law 976 = .ok (.goto 4, 3) := by decide +kernel
theorem dL_law_979 : decode cL_law 979 = .ok (.iconst 0, 1) := by decide +kernel
theorem dL_law_980 : decode cL_law 980 = .ok (.invokevirtual 121, 3) := by decide +kernel
theorem dL_law_983 : decode cL_law 983 = .ok (.aload_n 2, 1) := by decide +kernel
theorem dL_law_984 : decode cL_law 984 = .ok (.aload_n 0, 1) := by decide +kernel
theorem dL_law_985 : decode cL_law 985 = .ok (.iload_n 3, 1) := by decide +kernel
theorem dL_law_986 : decode cL_law 986 = .ok (.iconst 1, 1) := by decide +kernel
theorem dL_law_987 : decode cL_law 987 = .ok (.iadd, 1) := by decide +kernel
theorem dL_law_988 : decode cL_law 988 = .ok (.iaload, 1) := by decide +kernel
theorem dL_law_989 : decode cL_law 989 = .ok (.aload_n 0, 1) := by decide +kernel
theorem dL_law_990 : decode cL_law 990 = .ok (.iload_n 3, 1) := by decide +kernel
theorem dL_law_991 : decode cL_law 991 = .ok (.iconst 2, 1) := by decide +kernel
theorem dL_law_992 : decode cL_law 992 = .ok (.iadd, 1) := by decide +kernel
theorem dL_law_993 : decode cL_law 993 = .ok (.iaload, 1) := by decide +kernel
theorem dL_law_994 : decode cL_law 994 = .ok (.ifCond .eq 7, 3) := by decide +kernel
theorem dL_law_997 : decode cL_law 997 = .ok (.iconst 1, 1) := by decide +kernel
theorem dL_law_998 : decode cL_law 998 = .ok (.goto 4, 3) := by decide +kernel
theorem dL_law_1001 : decode cL_law 1001 = .ok (.iconst 0, 1) := by decide +kernel
theorem dL_law_1002 : decode cL_law 1002 = .ok (.invokevirtual 125, 3) := by decide +kernel
theorem dL_law_1005 : decode cL_law 1005 = .ok (.if_icmp .eq 503, 3) := by decide +kernel
theorem dL_law_1008 : decode cL_law 1008 = .ok (.iconst 0, 1) := by decide +kernel
theorem dL_law_1009 : decode cL_law 1009 = .ok (.ireturn, 1) := by decide +kernel
theorem dL_law_1010 : decode cL_law 1010 = .ok (.aload_n 1, 1) := by decide +kernel
theorem dL_law_1011 : decode cL_law 1011 = .ok (.aload_n 0, 1) := by decide +kernel
theorem dL_law_1012 : decode cL_law 1012 = .ok (.iload_n 3, 1) := by decide +kernel
theorem dL_law_1013 : decode cL_law 1013 = .ok (.iconst 1, 1) := by decide +kernel
theorem dL_law_1014 : decode cL_law 1014 = .ok (.iadd, 1) := by decide +kernel
theorem dL_law_1015 : decode cL_law 1015 = .ok (.iaload, 1) := by decide +kernel
theorem dL_law_1016 : decode cL_law 1016 = .ok (.aload_n 0, 1) := by decide +kernel
theorem dL_law_1017 : decode cL_law 1017 = .ok (.iload_n 3, 1) := by decide +kernel
theorem dL_law_1018 : decode cL_law 1018 = .ok (.iconst 2, 1) := by decide +kernel
theorem dL_law_1019 : decode cL_law 1019 = .ok (.iadd, 1) := by decide +kernel
theorem dL_law_1020 : decode cL_law 1020 = .ok (.iaload, 1) := by decide +kernel
theorem dL_law_1021 : decode cL_law 1021 = .ok (.invokevirtual 126, 3) := by decide +kernel
theorem dL_law_1024 : decode cL_law 1024 = .ok (.aload_n 2, 1) := by decide +kernel
theorem dL_law_1025 : decode cL_law 1025 = .ok (.aload_n 0, 1) := by decide +kernel
theorem dL_law_1026 : decode cL_law 1026 = .ok (.iload_n 3, 1) := by decide +kernel
theorem dL_law_1027 : decode cL_law 1027 = .ok (.iconst 1, 1) := by decide +kernel
theorem dL_law_1028 : decode cL_law 1028 = .ok (.iadd, 1) := by decide +kernel
theorem dL_law_1029 : decode cL_law 1029 = .ok (.iaload, 1) := by decide +kernel
theorem dL_law_1030 : decode cL_law 1030 = .ok (.aload_n 0, 1) := by decide +kernel
theorem dL_law_1031 : decode cL_law 1031 = .ok (.iload_n 3, 1) := by decide +kernel
theorem dL_law_1032 : decode cL_law 1032 = .ok (.iconst 2, 1) := by decide +kernel
theorem dL_law_1033 : decode cL_law 1033 = .ok (.iadd, 1) := by decide +kernel
theorem dL_law_1034 : decode cL_law 1034 = .ok (.iaload, 1) := by decide +kernel
theorem dL_law_1035 : decode cL_law 1035 = .ok (.invokevirtual 129, 3) := by decide +kernel
theorem dL_law_1038 : decode cL_law 1038 = .ok (.if_icmp .eq 470, 3) := by decide +kernel
theorem dL_law_1041 : decode cL_law 1041 = .ok (.iconst 0, 1) := by decide +kernel
theorem dL_law_1042 : decode cL_law 1042 = .ok (.ireturn, 1) := by decide +kernel
theorem dL_law_1043 : decode cL_law 1043 = .ok (.aload_n 1, 1) := by decide +kernel
theorem dL_law_1044 : decode cL_law 1044 = .ok (.aload_n 0, 1) := by decide +kernel
theorem dL_law_1045 : decode cL_law 1045 = .ok (.iload_n 3, 1) := by decide +kernel
theorem dL_law_1046 : decode cL_law 1046 = .ok (.iconst 1, 1) := by decide +kernel
theorem dL_law_1047 : decode cL_law 1047 = .ok (.iadd, 1) := by decide +kernel
theorem dL_law_1048 : decode cL_law 1048 = .ok (.iaload, 1) := by decide +kernel
theorem dL_law_1049 : decode cL_law 1049 = .ok (.aload_n 0, 1) := by decide +kernel
theorem dL_law_1050 : decode cL_law 1050 = .ok (.iload_n 3, 1) := by decide +kernel
theorem dL_law_1051 : decode cL_law 1051 = .ok (.iconst 2, 1) := by decide +kernel
theorem dL_law_1052 : decode cL_law 1052 = .ok (.iadd, 1) := by decide +kernel
theorem dL_law_1053 : decode cL_law 1053 = .ok (.iaload, 1) := by decide +kernel
theorem dL_law_1054 : decode cL_law 1054 = .ok (.invokevirtual 130, 3) := by decide +kernel
theorem dL_law_1057 : decode cL_law 1057 = .ok (.aload_n 2, 1) := by decide +kernel
theorem dL_law_1058 : decode cL_law 1058 = .ok (.aload_n 0, 1) := by decide +kernel
theorem dL_law_1059 : decode cL_law 1059 = .ok (.iload_n 3, 1) := by decide +kernel
theorem dL_law_1060 : decode cL_law 1060 = .ok (.iconst 1, 1) := by decide +kernel
theorem dL_law_1061 : decode cL_law 1061 = .ok (.iadd, 1) := by decide +kernel
theorem dL_law_1062 : decode cL_law 1062 = .ok (.iaload, 1) := by decide +kernel
theorem dL_law_1063 : decode cL_law 1063 = .ok (.aload_n 0, 1) := by decide +kernel
theorem dL_law_1064 : decode cL_law 1064 = .ok (.iload_n 3, 1) := by decide +kernel
theorem dL_law_1065 : decode cL_law 1065 = .ok (.iconst 2, 1) := by decide +kernel
theorem dL_law_1066 : decode cL_law 1066 = .ok (.iadd, 1) := by decide +kernel
theorem dL_law_1067 : decode cL_law 1067 = .ok (.iaload, 1) := by decide +kernel
theorem dL_law_1068 : decode cL_law 1068 = .ok (.invokevirtual 133, 3) := by decide +kernel
theorem dL_law_1071 : decode cL_law 1071 = .ok (.if_icmp .eq 437, 3) := by decide +kernel
theorem dL_law_1074 : decode cL_law 1074 = .ok (.iconst 0, 1) := by decide +kernel
theorem dL_law_1075 : decode cL_law 1075 = .ok (.ireturn, 1) := by decide +kernel
theorem dL_law_1076 : decode cL_law 1076 = .ok (.aload_n 1, 1) := by decide +kernel
theorem dL_law_1077 : decode cL_law 1077 = .ok (.invokevirtual 134, 3) := by decide +kernel
theorem dL_law_1080 : decode cL_law 1080 = .ok (.aload_n 2, 1) := by decide +kernel
theorem dL_law_1081 : decode cL_law 1081 = .ok (.invokevirtual 137, 3) := by decide +kernel
theorem dL_law_1084 : decode cL_law 1084 = .ok (.if_icmp .eq 424, 3) := by decide +kernel
theorem dL_law_1087 : decode cL_law 1087 = .ok (.iconst 0, 1) := by decide +kernel
theorem dL_law_1088 : decode cL_law 1088 = .ok (.ireturn, 1) := by decide +kernel
theorem dL_law_1089 : decode cL_law 1089 = .ok (.aload_n 1, 1) := by decide +kernel
theorem dL_law_1090 : decode cL_law 1090 = .ok (.aload_n 0, 1) := by decide +kernel
theorem dL_law_1091 : decode cL_law 1091 = .ok (.iload_n 3, 1) := by decide +kernel
theorem dL_law_1092 : decode cL_law 1092 = .ok (.iconst 1, 1) := by decide +kernel
theorem dL_law_1093 : decode cL_law 1093 = .ok (.iadd, 1) := by decide +kernel
theorem dL_law_1094 : decode cL_law 1094 = .ok (.iaload, 1) := by decide +kernel
theorem dL_law_1095 : decode cL_law 1095 = .ok (.aload_n 0, 1) := by decide +kernel
theorem dL_law_1096 : decode cL_law 1096 = .ok (.iload_n 3, 1) := by decide +kernel
theorem dL_law_1097 : decode cL_law 1097 = .ok (.iconst 2, 1) := by decide +kernel
theorem dL_law_1098 : decode cL_law 1098 = .ok (.iadd, 1) := by decide +kernel
theorem dL_law_1099 : decode cL_law 1099 = .ok (.iaload, 1) := by decide +kernel
theorem dL_law_1100 : decode cL_law 1100 = .ok (.invokevirtual 138, 3) := by decide +kernel
theorem dL_law_1103 : decode cL_law 1103 = .ok (.aload_n 2, 1) := by decide +kernel
theorem dL_law_1104 : decode cL_law 1104 = .ok (.aload_n 0, 1) := by decide +kernel
theorem dL_law_1105 : decode cL_law 1105 = .ok (.iload_n 3, 1) := by decide +kernel
theorem dL_law_1106 : decode cL_law 1106 = .ok (.iconst 1, 1) := by decide +kernel
theorem dL_law_1107 : decode cL_law 1107 = .ok (.iadd, 1) := by decide +kernel
theorem dL_law_1108 : decode cL_law 1108 = .ok (.iaload, 1) := by decide +kernel
theorem dL_law_1109 : decode cL_law 1109 = .ok (.aload_n 0, 1) := by decide +kernel
theorem dL_law_1110 : decode cL_law 1110 = .ok (.iload_n 3, 1) := by decide +kernel
theorem dL_law_1111 : decode cL_law 1111 = .ok (.iconst 2, 1) := by decide +kernel
theorem dL_law_1112 : decode cL_law 1112 = .ok (.iadd, 1) := by decide +kernel
theorem dL_law_1113 : decode cL_law 1113 = .ok (.iaload, 1) := by decide +kernel
theorem dL_law_1114 : decode cL_law 1114 = .ok (.invokevirtual 141, 3) := by decide +kernel
theorem dL_law_1117 : decode cL_law 1117 = .ok (.if_icmp .eq 391, 3) := by decide +kernel
theorem dL_law_1120 : decode cL_law 1120 = .ok (.iconst 0, 1) := by decide +kernel
theorem dL_law_1121 : decode cL_law 1121 = .ok (.ireturn, 1) := by decide +kernel
theorem dL_law_1122 : decode cL_law 1122 = .ok (.aload_n 1, 1) := by decide +kernel
theorem dL_law_1123 : decode cL_law 1123 = .ok (.invokevirtual 142, 3) := by decide +kernel
theorem dL_law_1126 : decode cL_law 1126 = .ok (.aload_n 2, 1) := by decide +kernel
theorem dL_law_1127 : decode cL_law 1127 = .ok (.invokevirtual 145, 3) := by decide +kernel
theorem dL_law_1130 : decode cL_law 1130 = .ok (.if_icmp .eq 378, 3) := by decide +kernel
theorem dL_law_1133 : decode cL_law 1133 = .ok (.iconst 0, 1) := by decide +kernel
theorem dL_law_1134 : decode cL_law 1134 = .ok (.ireturn, 1) := by decide +kernel
theorem dL_law_1135 : decode cL_law 1135 = .ok (.aload_n 1, 1) := by decide +kernel
theorem dL_law_1136 : decode cL_law 1136 = .ok (.aload_n 0, 1) := by decide +kernel
theorem dL_law_1137 : decode cL_law 1137 = .ok (.iload_n 3, 1) := by decide +kernel
theorem dL_law_1138 : decode cL_law 1138 = .ok (.iconst 1, 1) := by decide +kernel
theorem dL_law_1139 : decode cL_law 1139 = .ok (.iadd, 1) := by decide +kernel
theorem dL_law_1140 : decode cL_law 1140 = .ok (.iaload, 1) := by decide +kernel
theorem dL_law_1141 : decode cL_law 1141 = .ok (.aload_n 0, 1) := by decide +kernel
theorem dL_law_1142 : decode cL_law 1142 = .ok (.iload_n 3, 1) := by decide +kernel
theorem dL_law_1143 : decode cL_law 1143 = .ok (.iconst 2, 1) := by decide +kernel
theorem dL_law_1144 : decode cL_law 1144 = .ok (.iadd, 1) := by decide +kernel
theorem dL_law_1145 : decode cL_law 1145 = .ok (.iaload, 1) := by decide +kernel
theorem dL_law_1146 : decode cL_law 1146 = .ok (.aload_n 0, 1) := by decide +kernel
theorem dL_law_1147 : decode cL_law 1147 = .ok (.iload_n 3, 1) := by decide +kernel
theorem dL_law_1148 : decode cL_law 1148 = .ok (.iconst 3, 1) := by decide +kernel
theorem dL_law_1149 : decode cL_law 1149 = .ok (.iadd, 1) := by decide +kernel
theorem dL_law_1150 : decode cL_law 1150 = .ok (.iaload, 1) := by decide +kernel
theorem dL_law_1151 : decode cL_law 1151 = .ok (.invokevirtual 146, 3) := by decide +kernel
theorem dL_law_1154 : decode cL_law 1154 = .ok (.aload_n 2, 1) := by decide +kernel
theorem dL_law_1155 : decode cL_law 1155 = .ok (.aload_n 0, 1) := by decide +kernel
theorem dL_law_1156 : decode cL_law 1156 = .ok (.iload_n 3, 1) := by decide +kernel
theorem dL_law_1157 : decode cL_law 1157 = .ok (.iconst 1, 1) := by decide +kernel
theorem dL_law_1158 : decode cL_law 1158 = .ok (.iadd, 1) := by decide +kernel
theorem dL_law_1159 : decode cL_law 1159 = .ok (.iaload, 1) := by decide +kernel
theorem dL_law_1160 : decode cL_law 1160 = .ok (.aload_n 0, 1) := by decide +kernel
theorem dL_law_1161 : decode cL_law 1161 = .ok (.iload_n 3, 1) := by decide +kernel
theorem dL_law_1162 : decode cL_law 1162 = .ok (.iconst 2, 1) := by decide +kernel
theorem dL_law_1163 : decode cL_law 1163 = .ok (.iadd, 1) := by decide +kernel
theorem dL_law_1164 : decode cL_law 1164 = .ok (.iaload, 1) := by decide +kernel
theorem dL_law_1165 : decode cL_law 1165 = .ok (.aload_n 0, 1) := by decide +kernel
theorem dL_law_1166 : decode cL_law 1166 = .ok (.iload_n 3, 1) := by decide +kernel
theorem dL_law_1167 : decode cL_law 1167 = .ok (.iconst 3, 1) := by decide +kernel
theorem dL_law_1168 : decode cL_law 1168 = .ok (.iadd, 1) := by decide +kernel
theorem dL_law_1169 : decode cL_law 1169 = .ok (.iaload, 1) := by decide +kernel
theorem dL_law_1170 : decode cL_law 1170 = .ok (.invokevirtual 149, 3) := by decide +kernel
theorem dL_law_1173 : decode cL_law 1173 = .ok (.if_icmp .eq 335, 3) := by decide +kernel
theorem dL_law_1176 : decode cL_law 1176 = .ok (.iconst 0, 1) := by decide +kernel
theorem dL_law_1177 : decode cL_law 1177 = .ok (.ireturn, 1) := by decide +kernel
theorem dL_law_1178 : decode cL_law 1178 = .ok (.aload_n 1, 1) := by decide +kernel
theorem dL_law_1179 : decode cL_law 1179 = .ok (.aload_n 0, 1) := by decide +kernel
theorem dL_law_1180 : decode cL_law 1180 = .ok (.iload_n 3, 1) := by decide +kernel
theorem dL_law_1181 : decode cL_law 1181 = .ok (.iconst 1, 1) := by decide +kernel
theorem dL_law_1182 : decode cL_law 1182 = .ok (.iadd, 1) := by decide +kernel
theorem dL_law_1183 : decode cL_law 1183 = .ok (.iaload, 1) := by decide +kernel
theorem dL_law_1184 : decode cL_law 1184 = .ok (.aload_n 0, 1) := by decide +kernel
theorem dL_law_1185 : decode cL_law 1185 = .ok (.iload_n 3, 1) := by decide +kernel
theorem dL_law_1186 : decode cL_law 1186 = .ok (.iconst 2, 1) := by decide +kernel
theorem dL_law_1187 : decode cL_law 1187 = .ok (.iadd, 1) := by decide +kernel
theorem dL_law_1188 : decode cL_law 1188 = .ok (.iaload, 1) := by decide +kernel
theorem dL_law_1189 : decode cL_law 1189 = .ok (.aload_n 0, 1) := by decide +kernel
theorem dL_law_1190 : decode cL_law 1190 = .ok (.iload_n 3, 1) := by decide +kernel
theorem dL_law_1191 : decode cL_law 1191 = .ok (.iconst 3, 1) := by decide +kernel
theorem dL_law_1192 : decode cL_law 1192 = .ok (.iadd, 1) := by decide +kernel
theorem dL_law_1193 : decode cL_law 1193 = .ok (.iaload, 1) := by decide +kernel
theorem dL_law_1194 : decode cL_law 1194 = .ok (.invokevirtual 150, 3) := by decide +kernel
theorem dL_law_1197 : decode cL_law 1197 = .ok (.aload_n 2, 1) := by decide +kernel
theorem dL_law_1198 : decode cL_law 1198 = .ok (.aload_n 0, 1) := by decide +kernel
theorem dL_law_1199 : decode cL_law 1199 = .ok (.iload_n 3, 1) := by decide +kernel
theorem dL_law_1200 : decode cL_law 1200 = .ok (.iconst 1, 1) := by decide +kernel
theorem dL_law_1201 : decode cL_law 1201 = .ok (.iadd, 1) := by decide +kernel
theorem dL_law_1202 : decode cL_law 1202 = .ok (.iaload, 1) := by decide +kernel
theorem dL_law_1203 : decode cL_law 1203 = .ok (.aload_n 0, 1) := by decide +kernel
theorem dL_law_1204 : decode cL_law 1204 = .ok (.iload_n 3, 1) := by decide +kernel
theorem dL_law_1205 : decode cL_law 1205 = .ok (.iconst 2, 1) := by decide +kernel
theorem dL_law_1206 : decode cL_law 1206 = .ok (.iadd, 1) := by decide +kernel
theorem dL_law_1207 : decode cL_law 1207 = .ok (.iaload, 1) := by decide +kernel
theorem dL_law_1208 : decode cL_law 1208 = .ok (.aload_n 0, 1) := by decide +kernel
theorem dL_law_1209 : decode cL_law 1209 = .ok (.iload_n 3, 1) := by decide +kernel
theorem dL_law_1210 : decode cL_law 1210 = .ok (.iconst 3, 1) := by decide +kernel
theorem dL_law_1211 : decode cL_law 1211 = .ok (.iadd, 1) := by decide +kernel
theorem dL_law_1212 : decode cL_law 1212 = .ok (.iaload, 1) := by decide +kernel
theorem dL_law_1213 : decode cL_law 1213 = .ok (.invokevirtual 153, 3) := by decide +kernel
theorem dL_law_1216 : decode cL_law 1216 = .ok (.if_icmp .eq 292, 3) := by decide +kernel
theorem dL_law_1219 : decode cL_law 1219 = .ok (.iconst 0, 1) := by decide +kernel
theorem dL_law_1220 : decode cL_law 1220 = .ok (.ireturn, 1) := by decide +kernel
theorem dL_law_1221 : decode cL_law 1221 = .ok (.aload_n 1, 1) := by decide +kernel
theorem dL_law_1222 : decode cL_law 1222 = .ok (.aload_n 0, 1) := by decide +kernel
theorem dL_law_1223 : decode cL_law 1223 = .ok (.iload_n 3, 1) := by decide +kernel
theorem dL_law_1224 : decode cL_law 1224 = .ok (.iconst 1, 1) := by decide +kernel
theorem dL_law_1225 : decode cL_law 1225 = .ok (.iadd, 1) := by decide +kernel
theorem dL_law_1226 : decode cL_law 1226 = .ok (.iaload, 1) := by decide +kernel
theorem dL_law_1227 : decode cL_law 1227 = .ok (.aload_n 0, 1) := by decide +kernel
theorem dL_law_1228 : decode cL_law 1228 = .ok (.iload_n 3, 1) := by decide +kernel
theorem dL_law_1229 : decode cL_law 1229 = .ok (.iconst 2, 1) := by decide +kernel
theorem dL_law_1230 : decode cL_law 1230 = .ok (.iadd, 1) := by decide +kernel
theorem dL_law_1231 : decode cL_law 1231 = .ok (.iaload, 1) := by decide +kernel
theorem dL_law_1232 : decode cL_law 1232 = .ok (.aload_n 0, 1) := by decide +kernel
theorem dL_law_1233 : decode cL_law 1233 = .ok (.iload_n 3, 1) := by decide +kernel
theorem dL_law_1234 : decode cL_law 1234 = .ok (.iconst 3, 1) := by decide +kernel
theorem dL_law_1235 : decode cL_law 1235 = .ok (.iadd, 1) := by decide +kernel
theorem dL_law_1236 : decode cL_law 1236 = .ok (.iaload, 1) := by decide +kernel
theorem dL_law_1237 : decode cL_law 1237 = .ok (.invokevirtual 154, 3) := by decide +kernel
theorem dL_law_1240 : decode cL_law 1240 = .ok (.aload_n 2, 1) := by decide +kernel
theorem dL_law_1241 : decode cL_law 1241 = .ok (.aload_n 0, 1) := by decide +kernel
theorem dL_law_1242 : decode cL_law 1242 = .ok (.iload_n 3, 1) := by decide +kernel
theorem dL_law_1243 : decode cL_law 1243 = .ok (.iconst 1, 1) := by decide +kernel
theorem dL_law_1244 : decode cL_law 1244 = .ok (.iadd, 1) := by decide +kernel
theorem dL_law_1245 : decode cL_law 1245 = .ok (.iaload, 1) := by decide +kernel
theorem dL_law_1246 : decode cL_law 1246 = .ok (.aload_n 0, 1) := by decide +kernel
theorem dL_law_1247 : decode cL_law 1247 = .ok (.iload_n 3, 1) := by decide +kernel
theorem dL_law_1248 : decode cL_law 1248 = .ok (.iconst 2, 1) := by decide +kernel
theorem dL_law_1249 : decode cL_law 1249 = .ok (.iadd, 1) := by decide +kernel
theorem dL_law_1250 : decode cL_law 1250 = .ok (.iaload, 1) := by decide +kernel
theorem dL_law_1251 : decode cL_law 1251 = .ok (.aload_n 0, 1) := by decide +kernel
theorem dL_law_1252 : decode cL_law 1252 = .ok (.iload_n 3, 1) := by decide +kernel
theorem dL_law_1253 : decode cL_law 1253 = .ok (.iconst 3, 1) := by decide +kernel
theorem dL_law_1254 : decode cL_law 1254 = .ok (.iadd, 1) := by decide +kernel
theorem dL_law_1255 : decode cL_law 1255 = .ok (.iaload, 1) := by decide +kernel
theorem dL_law_1256 : decode cL_law 1256 = .ok (.invokevirtual 157, 3) := by decide +kernel
theorem dL_law_1259 : decode cL_law 1259 = .ok (.if_icmp .eq 249, 3) := by decide +kernel
theorem dL_law_1262 : decode cL_law 1262 = .ok (.iconst 0, 1) := by decide +kernel
theorem dL_law_1263 : decode cL_law 1263 = .ok (.ireturn, 1) := by decide +kernel
theorem dL_law_1264 : decode cL_law 1264 = .ok (.aload_n 1, 1) := by decide +kernel
theorem dL_law_1265 : decode cL_law 1265 = .ok (.aload_n 0, 1) := by decide +kernel
theorem dL_law_1266 : decode cL_law 1266 = .ok (.iload_n 3, 1) := by decide +kernel
theorem dL_law_1267 : decode cL_law 1267 = .ok (.iconst 1, 1) := by decide +kernel
theorem dL_law_1268 : decode cL_law 1268 = .ok (.iadd, 1) := by decide +kernel
theorem dL_law_1269 : decode cL_law 1269 = .ok (.iaload, 1) := by decide +kernel
theorem dL_law_1270 : decode cL_law 1270 = .ok (.aload_n 0, 1) := by decide +kernel
theorem dL_law_1271 : decode cL_law 1271 = .ok (.iload_n 3, 1) := by decide +kernel
theorem dL_law_1272 : decode cL_law 1272 = .ok (.iconst 2, 1) := by decide +kernel
theorem dL_law_1273 : decode cL_law 1273 = .ok (.iadd, 1) := by decide +kernel
theorem dL_law_1274 : decode cL_law 1274 = .ok (.iaload, 1) := by decide +kernel
theorem dL_law_1275 : decode cL_law 1275 = .ok (.aload_n 0, 1) := by decide +kernel
theorem dL_law_1276 : decode cL_law 1276 = .ok (.iload_n 3, 1) := by decide +kernel
theorem dL_law_1277 : decode cL_law 1277 = .ok (.iconst 3, 1) := by decide +kernel
theorem dL_law_1278 : decode cL_law 1278 = .ok (.iadd, 1) := by decide +kernel
theorem dL_law_1279 : decode cL_law 1279 = .ok (.iaload, 1) := by decide +kernel
theorem dL_law_1280 : decode cL_law 1280 = .ok (.aload_n 0, 1) := by decide +kernel
theorem dL_law_1281 : decode cL_law 1281 = .ok (.iload_n 3, 1) := by decide +kernel
theorem dL_law_1282 : decode cL_law 1282 = .ok (.iconst 4, 1) := by decide +kernel
theorem dL_law_1283 : decode cL_law 1283 = .ok (.iadd, 1) := by decide +kernel
theorem dL_law_1284 : decode cL_law 1284 = .ok (.iaload, 1) := by decide +kernel
theorem dL_law_1285 : decode cL_law 1285 = .ok (.invokevirtual 158, 3) := by decide +kernel
theorem dL_law_1288 : decode cL_law 1288 = .ok (.aload_n 2, 1) := by decide +kernel
theorem dL_law_1289 : decode cL_law 1289 = .ok (.aload_n 0, 1) := by decide +kernel
theorem dL_law_1290 : decode cL_law 1290 = .ok (.iload_n 3, 1) := by decide +kernel
theorem dL_law_1291 : decode cL_law 1291 = .ok (.iconst 1, 1) := by decide +kernel
theorem dL_law_1292 : decode cL_law 1292 = .ok (.iadd, 1) := by decide +kernel
theorem dL_law_1293 : decode cL_law 1293 = .ok (.iaload, 1) := by decide +kernel
theorem dL_law_1294 : decode cL_law 1294 = .ok (.aload_n 0, 1) := by decide +kernel
theorem dL_law_1295 : decode cL_law 1295 = .ok (.iload_n 3, 1) := by decide +kernel
theorem dL_law_1296 : decode cL_law 1296 = .ok (.iconst 2, 1) := by decide +kernel
theorem dL_law_1297 : decode cL_law 1297 = .ok (.iadd, 1) := by decide +kernel
theorem dL_law_1298 : decode cL_law 1298 = .ok (.iaload, 1) := by decide +kernel
theorem dL_law_1299 : decode cL_law 1299 = .ok (.aload_n 0, 1) := by decide +kernel
theorem dL_law_1300 : decode cL_law 1300 = .ok (.iload_n 3, 1) := by decide +kernel
theorem dL_law_1301 : decode cL_law 1301 = .ok (.iconst 3, 1) := by decide +kernel
theorem dL_law_1302 : decode cL_law 1302 = .ok (.iadd, 1) := by decide +kernel
theorem dL_law_1303 : decode cL_law 1303 = .ok (.iaload, 1) := by decide +kernel
theorem dL_law_1304 : decode cL_law 1304 = .ok (.aload_n 0, 1) := by decide +kernel
theorem dL_law_1305 : decode cL_law 1305 = .ok (.iload_n 3, 1) := by decide +kernel
theorem dL_law_1306 : decode cL_law 1306 = .ok (.iconst 4, 1) := by decide +kernel
theorem dL_law_1307 : decode cL_law 1307 = .ok (.iadd, 1) := by decide +kernel
theorem dL_law_1308 : decode cL_law 1308 = .ok (.iaload, 1) := by decide +kernel
theorem dL_law_1309 : decode cL_law 1309 = .ok (.invokevirtual 162, 3) := by decide +kernel
theorem dL_law_1312 : decode cL_law 1312 = .ok (.if_icmp .eq 196, 3) := by decide +kernel
theorem dL_law_1315 : decode cL_law 1315 = .ok (.iconst 0, 1) := by decide +kernel
theorem dL_law_1316 : decode cL_law 1316 = .ok (.ireturn, 1) := by decide +kernel
theorem dL_law_1317 : decode cL_law 1317 = .ok (.aload_n 1, 1) := by decide +kernel
theorem dL_law_1318 : decode cL_law 1318 = .ok (.aload_n 0, 1) := by decide +kernel
theorem dL_law_1319 : decode cL_law 1319 = .ok (.iload_n 3, 1) := by decide +kernel
theorem dL_law_1320 : decode cL_law 1320 = .ok (.iconst 1, 1) := by decide +kernel
theorem dL_law_1321 : decode cL_law 1321 = .ok (.iadd, 1) := by decide +kernel
theorem dL_law_1322 : decode cL_law 1322 = .ok (.iaload, 1) := by decide +kernel
theorem dL_law_1323 : decode cL_law 1323 = .ok (.aload_n 0, 1) := by decide +kernel
theorem dL_law_1324 : decode cL_law 1324 = .ok (.iload_n 3, 1) := by decide +kernel
theorem dL_law_1325 : decode cL_law 1325 = .ok (.iconst 2, 1) := by decide +kernel
theorem dL_law_1326 : decode cL_law 1326 = .ok (.iadd, 1) := by decide +kernel
theorem dL_law_1327 : decode cL_law 1327 = .ok (.iaload, 1) := by decide +kernel
theorem dL_law_1328 : decode cL_law 1328 = .ok (.aload_n 0, 1) := by decide +kernel
theorem dL_law_1329 : decode cL_law 1329 = .ok (.iload_n 3, 1) := by decide +kernel
theorem dL_law_1330 : decode cL_law 1330 = .ok (.iconst 3, 1) := by decide +kernel
theorem dL_law_1331 : decode cL_law 1331 = .ok (.iadd, 1) := by decide +kernel
theorem dL_law_1332 : decode cL_law 1332 = .ok (.iaload, 1) := by decide +kernel
theorem dL_law_1333 : decode cL_law 1333 = .ok (.invokevirtual 163, 3) := by decide +kernel
theorem dL_law_1336 : decode cL_law 1336 = .ok (.aload_n 2, 1) := by decide +kernel
theorem dL_law_1337 : decode cL_law 1337 = .ok (.aload_n 0, 1) := by decide +kernel
theorem dL_law_1338 : decode cL_law 1338 = .ok (.iload_n 3, 1) := by decide +kernel
theorem dL_law_1339 : decode cL_law 1339 = .ok (.iconst 1, 1) := by decide +kernel
theorem dL_law_1340 : decode cL_law 1340 = .ok (.iadd, 1) := by decide +kernel
theorem dL_law_1341 : decode cL_law 1341 = .ok (.iaload, 1) := by decide +kernel
theorem dL_law_1342 : decode cL_law 1342 = .ok (.aload_n 0, 1) := by decide +kernel
theorem dL_law_1343 : decode cL_law 1343 = .ok (.iload_n 3, 1) := by decide +kernel
theorem dL_law_1344 : decode cL_law 1344 = .ok (.iconst 2, 1) := by decide +kernel
theorem dL_law_1345 : decode cL_law 1345 = .ok (.iadd, 1) := by decide +kernel
theorem dL_law_1346 : decode cL_law 1346 = .ok (.iaload, 1) := by decide +kernel
theorem dL_law_1347 : decode cL_law 1347 = .ok (.aload_n 0, 1) := by decide +kernel
theorem dL_law_1348 : decode cL_law 1348 = .ok (.iload_n 3, 1) := by decide +kernel
theorem dL_law_1349 : decode cL_law 1349 = .ok (.iconst 3, 1) := by decide +kernel
theorem dL_law_1350 : decode cL_law 1350 = .ok (.iadd, 1) := by decide +kernel
theorem dL_law_1351 : decode cL_law 1351 = .ok (.iaload, 1) := by decide +kernel
theorem dL_law_1352 : decode cL_law 1352 = .ok (.invokevirtual 166, 3) := by decide +kernel
theorem dL_law_1355 : decode cL_law 1355 = .ok (.if_icmp .eq 153, 3) := by decide +kernel
theorem dL_law_1358 : decode cL_law 1358 = .ok (.iconst 0, 1) := by decide +kernel
theorem dL_law_1359 : decode cL_law 1359 = .ok (.ireturn, 1) := by decide +kernel
theorem dL_law_1360 : decode cL_law 1360 = .ok (.aload_n 1, 1) := by decide +kernel
theorem dL_law_1361 : decode cL_law 1361 = .ok (.aload_n 0, 1) := by decide +kernel
theorem dL_law_1362 : decode cL_law 1362 = .ok (.iload_n 3, 1) := by decide +kernel
theorem dL_law_1363 : decode cL_law 1363 = .ok (.iconst 1, 1) := by decide +kernel
theorem dL_law_1364 : decode cL_law 1364 = .ok (.iadd, 1) := by decide +kernel
theorem dL_law_1365 : decode cL_law 1365 = .ok (.iaload, 1) := by decide +kernel
theorem dL_law_1366 : decode cL_law 1366 = .ok (.aload_n 0, 1) := by decide +kernel
theorem dL_law_1367 : decode cL_law 1367 = .ok (.iload_n 3, 1) := by decide +kernel
theorem dL_law_1368 : decode cL_law 1368 = .ok (.iconst 2, 1) := by decide +kernel
theorem dL_law_1369 : decode cL_law 1369 = .ok (.iadd, 1) := by decide +kernel
theorem dL_law_1370 : decode cL_law 1370 = .ok (.iaload, 1) := by decide +kernel
theorem dL_law_1371 : decode cL_law 1371 = .ok (.invokevirtual 167, 3) := by decide +kernel
theorem dL_law_1374 : decode cL_law 1374 = .ok (.aload_n 2, 1) := by decide +kernel
theorem dL_law_1375 : decode cL_law 1375 = .ok (.aload_n 0, 1) := by decide +kernel
theorem dL_law_1376 : decode cL_law 1376 = .ok (.iload_n 3, 1) := by decide +kernel
theorem dL_law_1377 : decode cL_law 1377 = .ok (.iconst 1, 1) := by decide +kernel
theorem dL_law_1378 : decode cL_law 1378 = .ok (.iadd, 1) := by decide +kernel
theorem dL_law_1379 : decode cL_law 1379 = .ok (.iaload, 1) := by decide +kernel
theorem dL_law_1380 : decode cL_law 1380 = .ok (.aload_n 0, 1) := by decide +kernel
theorem dL_law_1381 : decode cL_law 1381 = .ok (.iload_n 3, 1) := by decide +kernel
theorem dL_law_1382 : decode cL_law 1382 = .ok (.iconst 2, 1) := by decide +kernel
theorem dL_law_1383 : decode cL_law 1383 = .ok (.iadd, 1) := by decide +kernel
theorem dL_law_1384 : decode cL_law 1384 = .ok (.iaload, 1) := by decide +kernel
theorem dL_law_1385 : decode cL_law 1385 = .ok (.invokevirtual 170, 3) := by decide +kernel
theorem dL_law_1388 : decode cL_law 1388 = .ok (.if_icmp .eq 120, 3) := by decide +kernel
theorem dL_law_1391 : decode cL_law 1391 = .ok (.iconst 0, 1) := by decide +kernel
theorem dL_law_1392 : decode cL_law 1392 = .ok (.ireturn, 1) := by decide +kernel
theorem dL_law_1393 : decode cL_law 1393 = .ok (.aload_n 1, 1) := by decide +kernel
theorem dL_law_1394 : decode cL_law 1394 = .ok (.aload_n 0, 1) := by decide +kernel
theorem dL_law_1395 : decode cL_law 1395 = .ok (.iload_n 3, 1) := by decide +kernel
theorem dL_law_1396 : decode cL_law 1396 = .ok (.iconst 1, 1) := by decide +kernel
theorem dL_law_1397 : decode cL_law 1397 = .ok (.iadd, 1) := by decide +kernel
theorem dL_law_1398 : decode cL_law 1398 = .ok (.iaload, 1) := by decide +kernel
theorem dL_law_1399 : decode cL_law 1399 = .ok (.aload_n 0, 1) := by decide +kernel
theorem dL_law_1400 : decode cL_law 1400 = .ok (.iload_n 3, 1) := by decide +kernel
theorem dL_law_1401 : decode cL_law 1401 = .ok (.iconst 2, 1) := by decide +kernel
theorem dL_law_1402 : decode cL_law 1402 = .ok (.iadd, 1) := by decide +kernel
theorem dL_law_1403 : decode cL_law 1403 = .ok (.iaload, 1) := by decide +kernel
theorem dL_law_1404 : decode cL_law 1404 = .ok (.aload_n 0, 1) := by decide +kernel
theorem dL_law_1405 : decode cL_law 1405 = .ok (.iload_n 3, 1) := by decide +kernel
theorem dL_law_1406 : decode cL_law 1406 = .ok (.iconst 3, 1) := by decide +kernel
theorem dL_law_1407 : decode cL_law 1407 = .ok (.iadd, 1) := by decide +kernel
theorem dL_law_1408 : decode cL_law 1408 = .ok (.iaload, 1) := by decide +kernel
theorem dL_law_1409 : decode cL_law 1409 = .ok (.invokevirtual 171, 3) := by decide +kernel
theorem dL_law_1412 : decode cL_law 1412 = .ok (.aload_n 2, 1) := by decide +kernel
theorem dL_law_1413 : decode cL_law 1413 = .ok (.aload_n 0, 1) := by decide +kernel
theorem dL_law_1414 : decode cL_law 1414 = .ok (.iload_n 3, 1) := by decide +kernel
theorem dL_law_1415 : decode cL_law 1415 = .ok (.iconst 1, 1) := by decide +kernel
theorem dL_law_1416 : decode cL_law 1416 = .ok (.iadd, 1) := by decide +kernel
theorem dL_law_1417 : decode cL_law 1417 = .ok (.iaload, 1) := by decide +kernel
theorem dL_law_1418 : decode cL_law 1418 = .ok (.aload_n 0, 1) := by decide +kernel
theorem dL_law_1419 : decode cL_law 1419 = .ok (.iload_n 3, 1) := by decide +kernel
theorem dL_law_1420 : decode cL_law 1420 = .ok (.iconst 2, 1) := by decide +kernel
theorem dL_law_1421 : decode cL_law 1421 = .ok (.iadd, 1) := by decide +kernel
theorem dL_law_1422 : decode cL_law 1422 = .ok (.iaload, 1) := by decide +kernel
theorem dL_law_1423 : decode cL_law 1423 = .ok (.aload_n 0, 1) := by decide +kernel
theorem dL_law_1424 : decode cL_law 1424 = .ok (.iload_n 3, 1) := by decide +kernel
theorem dL_law_1425 : decode cL_law 1425 = .ok (.iconst 3, 1) := by decide +kernel
theorem dL_law_1426 : decode cL_law 1426 = .ok (.iadd, 1) := by decide +kernel
theorem dL_law_1427 : decode cL_law 1427 = .ok (.iaload, 1) := by decide +kernel
theorem dL_law_1428 : decode cL_law 1428 = .ok (.invokevirtual 174, 3) := by decide +kernel
theorem dL_law_1431 : decode cL_law 1431 = .ok (.if_icmp .eq 77, 3) := by decide +kernel
theorem dL_law_1434 : decode cL_law 1434 = .ok (.iconst 0, 1) := by decide +kernel
theorem dL_law_1435 : decode cL_law 1435 = .ok (.ireturn, 1) := by decide +kernel
theorem dL_law_1436 : decode cL_law 1436 = .ok (.aload_n 1, 1) := by decide +kernel
theorem dL_law_1437 : decode cL_law 1437 = .ok (.aload_n 0, 1) := by decide +kernel
theorem dL_law_1438 : decode cL_law 1438 = .ok (.iload_n 3, 1) := by decide +kernel
theorem dL_law_1439 : decode cL_law 1439 = .ok (.iconst 1, 1) := by decide +kernel
theorem dL_law_1440 : decode cL_law 1440 = .ok (.iadd, 1) := by decide +kernel
theorem dL_law_1441 : decode cL_law 1441 = .ok (.iaload, 1) := by decide +kernel
theorem dL_law_1442 : decode cL_law 1442 = .ok (.invokevirtual 175, 3) := by decide +kernel
theorem dL_law_1445 : decode cL_law 1445 = .ok (.aload_n 2, 1) := by decide +kernel
theorem dL_law_1446 : decode cL_law 1446 = .ok (.aload_n 0, 1) := by decide +kernel
theorem dL_law_1447 : decode cL_law 1447 = .ok (.iload_n 3, 1) := by decide +kernel
theorem dL_law_1448 : decode cL_law 1448 = .ok (.iconst 1, 1) := by decide +kernel
theorem dL_law_1449 : decode cL_law 1449 = .ok (.iadd, 1) := by decide +kernel
theorem dL_law_1450 : decode cL_law 1450 = .ok (.iaload, 1) := by decide +kernel
theorem dL_law_1451 : decode cL_law 1451 = .ok (.invokevirtual 178, 3) := by decide +kernel
theorem dL_law_1454 : decode cL_law 1454 = .ok (.if_icmp .eq 54, 3) := by decide +kernel
theorem dL_law_1457 : decode cL_law 1457 = .ok (.iconst 0, 1) := by decide +kernel
theorem dL_law_1458 : decode cL_law 1458 = .ok (.ireturn, 1) := by decide +kernel
theorem dL_law_1459 : decode cL_law 1459 = .ok (.aload_n 1, 1) := by decide +kernel
theorem dL_law_1460 : decode cL_law 1460 = .ok (.aload_n 0, 1) := by decide +kernel
theorem dL_law_1461 : decode cL_law 1461 = .ok (.iload_n 3, 1) := by decide +kernel
theorem dL_law_1462 : decode cL_law 1462 = .ok (.iconst 1, 1) := by decide +kernel
theorem dL_law_1463 : decode cL_law 1463 = .ok (.iadd, 1) := by decide +kernel
theorem dL_law_1464 : decode cL_law 1464 = .ok (.iaload, 1) := by decide +kernel
theorem dL_law_1465 : decode cL_law 1465 = .ok (.invokevirtual 179, 3) := by decide +kernel
theorem dL_law_1468 : decode cL_law 1468 = .ok (.aload_n 2, 1) := by decide +kernel
theorem dL_law_1469 : decode cL_law 1469 = .ok (.aload_n 0, 1) := by decide +kernel
theorem dL_law_1470 : decode cL_law 1470 = .ok (.iload_n 3, 1) := by decide +kernel
theorem dL_law_1471 : decode cL_law 1471 = .ok (.iconst 1, 1) := by decide +kernel
theorem dL_law_1472 : decode cL_law 1472 = .ok (.iadd, 1) := by decide +kernel
theorem dL_law_1473 : decode cL_law 1473 = .ok (.iaload, 1) := by decide +kernel
theorem dL_law_1474 : decode cL_law 1474 = .ok (.invokevirtual 182, 3) := by decide +kernel
theorem dL_law_1477 : decode cL_law 1477 = .ok (.if_icmp .eq 31, 3) := by decide +kernel
theorem dL_law_1480 : decode cL_law 1480 = .ok (.iconst 0, 1) := by decide +kernel
theorem dL_law_1481 : decode cL_law 1481 = .ok (.ireturn, 1) := by decide +kernel
theorem dL_law_1482 : decode cL_law 1482 = .ok (.aload_n 1, 1) := by decide +kernel
theorem dL_law_1483 : decode cL_law 1483 = .ok (.invokevirtual 183, 3) := by decide +kernel
theorem dL_law_1486 : decode cL_law 1486 = .ok (.aload_n 2, 1) := by decide +kernel
theorem dL_law_1487 : decode cL_law 1487 = .ok (.invokevirtual 186, 3) := by decide +kernel
theorem dL_law_1490 : decode cL_law 1490 = .ok (.if_icmp .eq 18, 3) := by decide +kernel
theorem dL_law_1493 : decode cL_law 1493 = .ok (.iconst 0, 1) := by decide +kernel
theorem dL_law_1494 : decode cL_law 1494 = .ok (.ireturn, 1) := by decide +kernel
theorem dL_law_1495 : decode cL_law 1495 = .ok (.aload_n 1, 1) := by decide +kernel
theorem dL_law_1496 : decode cL_law 1496 = .ok (.invokevirtual 187, 3) := by decide +kernel
theorem dL_law_1499 : decode cL_law 1499 = .ok (.aload_n 2, 1) := by decide +kernel
theorem dL_law_1500 : decode cL_law 1500 = .ok (.invokevirtual 190, 3) := by decide +kernel
theorem dL_law_1503 : decode cL_law 1503 = .ok (.if_icmp .eq 5, 3) := by decide +kernel
theorem dL_law_1506 : decode cL_law 1506 = .ok (.iconst 0, 1) := by decide +kernel
theorem dL_law_1507 : decode cL_law 1507 = .ok (.ireturn, 1) := by decide +kernel
theorem dL_law_1508 : decode cL_law 1508 = .ok (.iinc 3 6, 3) := by decide +kernel
theorem dL_law_1511 : decode cL_law 1511 = .ok (.goto (-1493), 3) := by decide +kernel
theorem dL_law_1514 : decode cL_law 1514 = .ok (.iconst 1, 1) := by decide +kernel
theorem dL_law_1515 : decode cL_law 1515 = .ok (.ireturn, 1) := by decide +kernel
