theorem dX7_isTrue_105 : decode cX7_isTrue 105 = .ok (.isub, 1) := by decide +kernel
theorem dX7_isTrue_106 : decode cX7_isTrue 106 = .ok (.iastore, 1) := by decide +kernel
theorem dX7_isTrue_107 : decode cX7_isTrue 107 = .ok (.goto 38, 3) := by decide +kernel
theorem dX7_isTrue_110 : decode cX7_isTrue 110 = .ok (.iload_n 3, 1) := by decide +kernel
theorem dX7_isTrue_111 : decode cX7_isTrue 111 = .ok (.iconst 1, 1) := by decide +kernel
theorem dX7_isTrue_112 : decode cX7_isTrue 112 = .ok (.if_icmp .le 33, 3) := by decide +kernel
theorem dX7_isTrue_115 : decode cX7_isTrue 115 = .ok (.iinc 3 (-1), 3) := by decide +kernel
theorem dX7_isTrue_118 : decode cX7_isTrue 118 = .ok (.aload_n 0, 1) := by decide +kernel
theorem dX7_isTrue_119 : decode cX7_isTrue 119 = .ok (.getfield 32, 3) := by decide +kernel
theorem dX7_isTrue_122 : decode cX7_isTrue 122 = .ok (.iload_n 3, 1) := by decide +kernel
theorem dX7_isTrue_123 : decode cX7_isTrue 123 = .ok (.iconst 1, 1) := by decide +kernel
theorem dX7_isTrue_124 : decode cX7_isTrue 124 = .ok (.isub, 1) := by decide +kernel
theorem dX7_isTrue_125 : decode cX7_isTrue 125 = .ok (.iload 5, 2) := by decide +kernel
theorem dX7_isTrue_127 : decode cX7_isTrue 127 = .ok (.aload_n 0, 1) := by decide +kernel
theorem dX7_isTrue_128 : decode cX7_isTrue 128 = .ok (.getfield 32, 3) := by decide +kernel
theorem dX7_isTrue_131 : decode cX7_isTrue 131 = .ok (.iload_n 3, 1) := by decide +kernel
theorem dX7_isTrue_132 : decode cX7_isTrue 132 = .ok (.iconst 1, 1) := by decide +kernel
theorem dX7_isTrue_133 : decode cX7_isTrue 133 = .ok (.isub, 1) := by decide +kernel
theorem dX7_isTrue_134 : decode cX7_isTrue 134 = .ok (.iaload, 1) := by decide +kernel
theorem dX7_isTrue_135 : decode cX7_isTrue 135 = .ok (.aload_n 0, 1) := by decide +kernel
theorem dX7_isTrue_136 : decode cX7_isTrue 136 = .ok (.getfield 32, 3) := by decide +kernel
theorem dX7_isTrue_139 : decode cX7_isTrue 139 = .ok (.iload_n 3, 1) := by decide +kernel
theorem dX7_isTrue_140 : decode cX7_isTrue 140 = .ok (.iaload, 1) := by decide +kernel
theorem dX7_isTrue_141 : decode cX7_isTrue 141 = .ok (.invokestatic 81, 3) := by decide +kernel
theorem dX7_isTrue_144 : decode cX7_isTrue 144 = .ok (.iastore, 1) := by decide +kernel
theorem dX7_isTrue_145 : decode cX7_isTrue 145 = .ok (.iinc 4 1, 3) := by decide +kernel
theorem dX7_isTrue_148 : decode cX7_isTrue 148 = .ok (.goto (-138), 3) := by decide +kernel
theorem dX7_isTrue_151 : decode cX7_isTrue 151 = .ok (.aload_n 0, 1) := by decide +kernel
theorem dX7_isTrue_152 : decode cX7_isTrue 152 = .ok (.getfield 32, 3) := by decide +kernel
theorem dX7_isTrue_155 : decode cX7_isTrue 155 = .ok (.iconst 0, 1) := by decide +kernel
theorem dX7_isTrue_156 : decode cX7_isTrue 156 = .ok (.iaload, 1) := by decide +kernel
theorem dX7_isTrue_157 : decode cX7_isTrue 157 = .ok (.ifCond .eq 7, 3) := by decide +kernel
theorem dX7_isTrue_160 : decode cX7_isTrue 160 = .ok (.iconst 1, 1) := by decide +kernel
theorem dX7_isTrue_161 : decode cX7_isTrue 161 = .ok (.goto 4, 3) := by decide +kernel
theorem dX7_isTrue_164 : decode cX7_isTrue 164 = .ok (.iconst 0, 1) := by decide +kernel
theorem dX7_isTrue_165 : decode cX7_isTrue 165 = .ok (.ireturn, 1) := by decide +kernel
theorem dX7_valueOf_0 : decode cX7_valueOf 0 = .ok (.iload_n 1, 1) := by decide +kernel
theorem dX7_valueOf_1 : decode cX7_valueOf 1 = .ok (.tableswitch 96 0 4 #[35, 37, 56, 80, 88], 35) := by decide +kernel
theorem dX7_valueOf_36 : decode cX7_valueOf 36 = .ok (.iload_n 2, 1) := by decide +kernel
theorem dX7_valueOf_37 : decode cX7_valueOf 37 = .ok (.ireturn, 1) := by decide +kernel
theorem dX7_valueOf_38 : decode cX7_valueOf 38 = .ok (.iload_n 2, 1) := by decide +kernel
theorem dX7_valueOf_39 : decode cX7_valueOf 39 = .ok (.iconst 5, 1) := by decide +kernel
theorem dX7_valueOf_40 : decode cX7_valueOf 40 = .ok (.if_icmp .ge 15, 3) := by decide +kernel
theorem dX7_valueOf_43 : decode cX7_valueOf 43 = .ok (.aload_n 0, 1) := by decide +kernel
theorem dX7_valueOf_44 : decode cX7_valueOf 44 = .ok (.getfield 21, 3) := by decide +kernel
theorem dX7_valueOf_47 : decode cX7_valueOf 47 = .ok (.getfield 85, 3) := by decide +kernel
theorem dX7_valueOf_50 : decode cX7_valueOf 50 = .ok (.iload_n 2, 1) := by decide +kernel
theorem dX7_valueOf_51 : decode cX7_valueOf 51 = .ok (.iaload, 1) := by decide +kernel
theorem dX7_valueOf_52 : decode cX7_valueOf 52 = .ok (.goto 4, 3) := by decide +kernel
theorem dX7_valueOf_55 : decode cX7_valueOf 55 = .ok (.iconst 0, 1) := by decide +kernel
theorem dX7_valueOf_56 : decode cX7_valueOf 56 = .ok (.ireturn, 1) := by decide +kernel
theorem dX7_valueOf_57 : decode cX7_valueOf 57 = .ok (.iload_n 2, 1) := by decide +kernel
theorem dX7_valueOf_58 : decode cX7_valueOf 58 = .ok (.aload_n 0, 1) := by decide +kernel
theorem dX7_valueOf_59 : decode cX7_valueOf 59 = .ok (.getfield 21, 3) := by decide +kernel
theorem dX7_valueOf_62 : decode cX7_valueOf 62 = .ok (.getfield 88, 3) := by decide +kernel
theorem dX7_valueOf_65 : decode cX7_valueOf 65 = .ok (.if_icmp .ge 14, 3) := by decide +kernel
theorem dX7_valueOf_68 : decode cX7_valueOf 68 = .ok (.aload_n 0, 1) := by decide +kernel
theorem dX7_valueOf_69 : decode cX7_valueOf 69 = .ok (.getfield 21, 3) := by decide +kernel
theorem dX7_valueOf_72 : decode cX7_valueOf 72 = .ok (.iload_n 2, 1) := by decide +kernel
theorem dX7_valueOf_73 : decode cX7_valueOf 73 = .ok (.invokevirtual 89, 3) := by decide +kernel
theorem dX7_valueOf_76 : decode cX7_valueOf 76 = .ok (.goto 4, 3) := by decide +kernel
theorem dX7_valueOf_79 : decode cX7_valueOf 79 = .ok (.iconst 0, 1) := by decide +kernel
theorem dX7_valueOf_80 : decode cX7_valueOf 80 = .ok (.ireturn, 1) := by decide +kernel
theorem dX7_valueOf_81 : decode cX7_valueOf 81 = .ok (.aload_n 0, 1) := by decide +kernel
theorem dX7_valueOf_82 : decode cX7_valueOf 82 = .ok (.getfield 21, 3) := by decide +kernel
theorem dX7_valueOf_85 : decode cX7_valueOf 85 = .ok (.getfield 93, 3) := by decide +kernel
theorem dX7_valueOf_88 : decode cX7_valueOf 88 = .ok (.ireturn, 1) := by decide +kernel
theorem dX7_valueOf_89 : decode cX7_valueOf 89 = .ok (.aload_n 0, 1) := by decide +kernel
theorem dX7_valueOf_90 : decode cX7_valueOf 90 = .ok (.getfield 21, 3) := by decide +kernel
theorem dX7_valueOf_93 : decode cX7_valueOf 93 = .ok (.getfield 96, 3) := by decide +kernel
theorem dX7_valueOf_96 : decode cX7_valueOf 96 = .ok (.ireturn, 1) := by decide +kernel
theorem dX7_valueOf_97 : decode cX7_valueOf 97 = .ok (.aload_n 0, 1) := by decide +kernel
theorem dX7_valueOf_98 : decode cX7_valueOf 98 = .ok (.getfield 21, 3) := by decide +kernel
theorem dX7_valueOf_101 : decode cX7_valueOf 101 = .ok (.getfield 85, 3) := by decide +kernel
theorem dX7_valueOf_104 : decode cX7_valueOf 104 = .ok (.iconst 1, 1) := by decide +kernel
theorem dX7_valueOf_105 : decode cX7_valueOf 105 = .ok (.iaload, 1) := by decide +kernel
theorem dX7_valueOf_106 : decode cX7_valueOf 106 = .ok (.ireturn, 1) := by decide +kernel
theorem dX7_joined_0 : decode cX7_joined 0 = .ok (.iload_n 0, 1) := by decide +kernel
theorem dX7_joined_1 : decode cX7_joined 1 = .ok (.tableswitch 80 6 11 #[39, 43, 54, 65, 80, 76], 39) := by decide +kernel
theorem dX7_joined_40 : decode cX7_joined 40 = .ok (.iload_n 1, 1) := by decide +kernel
theorem dX7_joined_41 : decode cX7_joined 41 = .ok (.iload_n 2, 1) := by decide +kernel
theorem dX7_joined_42 : decode cX7_joined 42 = .ok (.iadd, 1) := by decide +kernel
theorem dX7_joined_43 : decode cX7_joined 43 = .ok (.ireturn, 1) := by decide +kernel
theorem dX7_joined_44 : decode cX7_joined 44 = .ok (.iload_n 1, 1) := by decide +kernel
theorem dX7_joined_45 : decode cX7_joined 45 = .ok (.iload_n 2, 1) := by decide +kernel
theorem dX7_joined_46 : decode cX7_joined 46 = .ok (.if_icmp .ge 7, 3) := by decide +kernel
theorem dX7_joined_49 : decode cX7_joined 49 = .ok (.iconst 1, 1) := by decide +kernel
theorem dX7_joined_50 : decode cX7_joined 50 = .ok (.goto 4, 3) := by decide +kernel
theorem dX7_joined_53 : decode cX7_joined 53 = .ok (.iconst 0, 1) := by decide +kernel
theorem dX7_joined_54 : decode cX7_joined 54 = .ok (.ireturn, 1) := by decide +kernel
theorem dX7_joined_55 : decode cX7_joined 55 = .ok (.iload_n 1, 1) := by decide +kernel
theorem dX7_joined_56 : decode cX7_joined 56 = .ok (.iload_n 2, 1) := by decide +kernel
theorem dX7_joined_57 : decode cX7_joined 57 = .ok (.if_icmp .ne 7, 3) := by decide +kernel
theorem dX7_joined_60 : decode cX7_joined 60 = .ok (.iconst 1, 1) := by decide +kernel
theorem dX7_joined_61 : decode cX7_joined 61 = .ok (.goto 4, 3) := by decide +kernel
theorem dX7_joined_64 : decode cX7_joined 64 = .ok (.iconst 0, 1) := by decide +kernel
theorem dX7_joined_65 : decode cX7_joined 65 = .ok (.ireturn, 1) := by decide +kernel
theorem dX7_joined_66 : decode cX7_joined 66 = .ok (.iload_n 1, 1) := by decide +kernel
theorem dX7_joined_67 : decode cX7_joined 67 = .ok (.iload_n 2, 1) := by decide +kernel
theorem dX7_joined_68 : decode cX7_joined 68 = .ok (.if_icmp .le 7, 3) := by decide +kernel
theorem dX7_joined_71 : decode cX7_joined 71 = .ok (.iconst 1, 1) := by decide +kernel
theorem dX7_joined_72 : decode cX7_joined 72 = .ok (.goto 4, 3) := by decide +kernel
theorem dX7_joined_75 : decode cX7_joined 75 = .ok (.iconst 0, 1) := by decide +kernel
theorem dX7_joined_76 : decode cX7_joined 76 = .ok (.ireturn, 1) := by decide +kernel
theorem dX7_joined_77 : decode cX7_joined 77 = .ok (.iload_n 1, 1) := by decide +kernel
theorem dX7_joined_78 : decode cX7_joined 78 = .ok (.iload_n 2, 1) := by decide +kernel
theorem dX7_joined_79 : decode cX7_joined 79 = .ok (.iand, 1) := by decide +kernel
theorem dX7_joined_80 : decode cX7_joined 80 = .ok (.ireturn, 1) := by decide +kernel
theorem dX7_joined_81 : decode cX7_joined 81 = .ok (.iload_n 1, 1) := by decide +kernel
theorem dX7_joined_82 : decode cX7_joined 82 = .ok (.iload_n 2, 1) := by decide +kernel
theorem dX7_joined_83 : decode cX7_joined 83 = .ok (.ior, 1) := by decide +kernel
theorem dX7_joined_84 : decode cX7_joined 84 = .ok (.ireturn, 1) := by decide +kernel
theorem dX7_listOpen_0 : decode cX7_listOpen 0 = .ok (.aload_n 0, 1) := by decide +kernel
theorem dX7_listOpen_1 : decode cX7_listOpen 1 = .ok (.iconst 0, 1) := by decide +kernel
theorem dX7_listOpen_2 : decode cX7_listOpen 2 = .ok (.putfield 99, 3) := by decide +kernel
theorem dX7_listOpen_5 : decode cX7_listOpen 5 = .ok (.iconst 0, 1) := by decide +kernel
theorem dX7_listOpen_6 : decode cX7_listOpen 6 = .ok (.istore_n 2, 1) := by decide +kernel
theorem dX7_listOpen_7 : decode cX7_listOpen 7 = .ok (.iload_n 2, 1) := by decide +kernel
theorem dX7_listOpen_8 : decode cX7_listOpen 8 = .ok (.aload_n 1, 1) := by decide +kernel
theorem dX7_listOpen_9 : decode cX7_listOpen 9 = .ok (.getfield 102, 3) := by decide +kernel
theorem dX7_listOpen_12 : decode cX7_listOpen 12 = .ok (.if_icmp .ge 49, 3) := by decide +kernel
theorem dX7_listOpen_15 : decode cX7_listOpen 15 = .ok (.aload_n 0, 1) := by decide +kernel
theorem dX7_listOpen_16 : decode cX7_listOpen 16 = .ok (.getfield 99, 3) := by decide +kernel
theorem dX7_listOpen_19 : decode cX7_listOpen 19 = .ok (.iconst 4, 1) := by decide +kernel
theorem dX7_listOpen_20 : decode cX7_listOpen 20 = .ok (.if_icmp .ge 41, 3) := by decide +kernel
theorem dX7_listOpen_23 : decode cX7_listOpen 23 = .ok (.aload_n 1, 1) := by decide +kernel
theorem dX7_listOpen_24 : decode cX7_listOpen 24 = .ok (.getfield 105, 3) := by decide +kernel
theorem dX7_listOpen_27 : decode cX7_listOpen 27 = .ok (.iload_n 2, 1) := by decide +kernel
theorem dX7_listOpen_28 : decode cX7_listOpen 28 = .ok (.aaload, 1) := by decide +kernel
theorem dX7_listOpen_29 : decode cX7_listOpen 29 = .ok (.invokevirtual 109, 3) := by decide +kernel
theorem dX7_listOpen_32 : decode cX7_listOpen 32 = .ok (.ifCond .eq 23, 3) := by decide +kernel
theorem dX7_listOpen_35 : decode cX7_listOpen 35 = .ok (.aload_n 0, 1) := by decide +kernel
theorem dX7_listOpen_36 : decode cX7_listOpen 36 = .ok (.getfield 9, 3) := by decide +kernel
theorem dX7_listOpen_39 : decode cX7_listOpen 39 = .ok (.aload_n 0, 1) := by decide +kernel
theorem dX7_listOpen_40 : decode cX7_listOpen 40 = .ok (.getfield 99, 3) := by decide +kernel
theorem dX7_listOpen_43 : decode cX7_listOpen 43 = .ok (.iload_n 2, 1) := by decide +kernel
theorem dX7_listOpen_44 : decode cX7_listOpen 44 = .ok (.iastore, 1) := by decide +kernel
theorem dX7_listOpen_45 : decode cX7_listOpen 45 = .ok (.aload_n 0, 1) := by decide +kernel
theorem dX7_listOpen_46 : decode cX7_listOpen 46 = .ok (.dup, 1) := by decide +kernel
theorem dX7_listOpen_47 : decode cX7_listOpen 47 = .ok (.getfield 99, 3) := by decide +kernel
theorem dX7_listOpen_50 : decode cX7_listOpen 50 = .ok (.iconst 1, 1) := by decide +kernel
theorem dX7_listOpen_51 : decode cX7_listOpen 51 = .ok (.iadd, 1) := by decide +kernel
theorem dX7_listOpen_52 : decode cX7_listOpen 52 = .ok (.putfield 99, 3) := by decide +kernel
theorem dX7_listOpen_55 : decode cX7_listOpen 55 = .ok (.iinc 2 1, 3) := by decide +kernel
theorem dX7_listOpen_58 : decode cX7_listOpen 58 = .ok (.goto (-51), 3) := by decide +kernel
theorem dX7_listOpen_61 : decode cX7_listOpen 61 = .ok (.return_, 1) := by decide +kernel
theorem dX7_findSizing_0 : decode cX7_findSizing 0 = .ok (.aload_n 0, 1) := by decide +kernel
theorem dX7_findSizing_1 : decode cX7_findSizing 1 = .ok (.aload_n 1, 1) := by decide +kernel
theorem dX7_findSizing_2 : decode cX7_findSizing 2 = .ok (.invokevirtual 115, 3) := by decide +kernel
theorem dX7_findSizing_5 : decode cX7_findSizing 5 = .ok (.aload_n 0, 1) := by decide +kernel
theorem dX7_findSizing_6 : decode cX7_findSizing 6 = .ok (.getfield 28, 3) := by decide +kernel
theorem dX7_findSizing_9 : decode cX7_findSizing 9 = .ok (.aload_n 1, 1) := by decide +kernel
theorem dX7_findSizing_10 : decode cX7_findSizing 10 = .ok (.invokevirtual 119, 3) := by decide +kernel
theorem dX7_findSizing_13 : decode cX7_findSizing 13 = .ok (.iconst 1, 1) := by decide +kernel
theorem dX7_findSizing_14 : decode cX7_findSizing 14 = .ok (.istore_n 2, 1) := by decide +kernel
theorem dX7_findSizing_15 : decode cX7_findSizing 15 = .ok (.iconst 0, 1) := by decide +kernel
theorem dX7_findSizing_16 : decode cX7_findSizing 16 = .ok (.istore_n 3, 1) := by decide +kernel
theorem dX7_findSizing_17 : decode cX7_findSizing 17 = .ok (.iconst 0, 1) := by decide +kernel
theorem dX7_findSizing_18 : decode cX7_findSizing 18 = .ok (.istore 4, 2) := by decide +kernel
theorem dX7_findSizing_20 : decode cX7_findSizing 20 = .ok (.iconst 0, 1) := by decide +kernel
theorem dX7_findSizing_21 : decode cX7_findSizing 21 = .ok (.istore 5, 2) := by decide +kernel
theorem dX7_findSizing_23 : decode cX7_findSizing 23 = .ok (.iload 5, 2) := by decide +kernel
theorem dX7_findSizing_25 : decode cX7_findSizing 25 = .ok (.aload_n 0, 1) := by decide +kernel
theorem dX7_findSizing_26 : decode cX7_findSizing 26 = .ok (.getfield 99, 3) := by decide +kernel
theorem dX7_findSizing_29 : decode cX7_findSizing 29 = .ok (.if_icmp .ge 57, 3) := by decide +kernel
theorem dX7_findSizing_32 : decode cX7_findSizing 32 = .ok (.aload_n 1, 1) := by decide +kernel
theorem dX7_findSizing_33 : decode cX7_findSizing 33 = .ok (.getfield 105, 3) := by decide +kernel
theorem dX7_findSizing_36 : decode cX7_findSizing 36 = .ok (.aload_n 0, 1) := by decide +kernel
theorem dX7_findSizing_37 : decode cX7_findSizing 37 = .ok (.getfield 9, 3) := by decide +kernel
theorem dX7_findSizing_40 : decode cX7_findSizing 40 = .ok (.iload 5, 2) := by decide +kernel
theorem dX7_findSizing_42 : decode cX7_findSizing 42 = .ok (.iaload, 1) := by decide +kernel
theorem dX7_findSizing_43 : decode cX7_findSizing 43 = .ok (.aaload, 1) := by decide +kernel
theorem dX7_findSizing_44 : decode cX7_findSizing 44 = .ok (.astore 6, 2) := by decide +kernel
theorem dX7_findSizing_46 : decode cX7_findSizing 46 = .ok (.iload_n 2, 1) := by decide +kernel
theorem dX7_findSizing_47 : decode cX7_findSizing 47 = .ok (.aload 6, 2) := by decide +kernel
theorem dX7_findSizing_49 : decode cX7_findSizing 49 = .ok (.getfield 122, 3) := by decide +kernel
theorem dX7_findSizing_52 : decode cX7_findSizing 52 = .ok (.aload 6, 2) := by decide +kernel
theorem dX7_findSizing_54 : decode cX7_findSizing 54 = .ok (.getfield 125, 3) := by decide +kernel
theorem dX7_findSizing_57 : decode cX7_findSizing 57 = .ok (.isub, 1) := by decide +kernel
theorem dX7_findSizing_58 : decode cX7_findSizing 58 = .ok (.iconst 1, 1) := by decide +kernel
theorem dX7_findSizing_59 : decode cX7_findSizing 59 = .ok (.iadd, 1) := by decide +kernel
theorem dX7_findSizing_60 : decode cX7_findSizing 60 = .ok (.imul, 1) := by decide +kernel
theorem dX7_findSizing_61 : decode cX7_findSizing 61 = .ok (.istore_n 2, 1) := by decide +kernel
theorem dX7_findSizing_62 : decode cX7_findSizing 62 = .ok (.iload_n 3, 1) := by decide +kernel
theorem dX7_findSizing_63 : decode cX7_findSizing 63 = .ok (.aload 6, 2) := by decide +kernel
theorem dX7_findSizing_65 : decode cX7_findSizing 65 = .ok (.getfield 125, 3) := by decide +kernel
theorem dX7_findSizing_68 : decode cX7_findSizing 68 = .ok (.iadd, 1) := by decide +kernel
theorem dX7_findSizing_69 : decode cX7_findSizing 69 = .ok (.istore_n 3, 1) := by decide +kernel
theorem dX7_findSizing_70 : decode cX7_findSizing 70 = .ok (.iload 4, 2) := by decide +kernel
theorem dX7_findSizing_72 : decode cX7_findSizing 72 = .ok (.aload 6, 2) := by decide +kernel
theorem dX7_findSizing_74 : decode cX7_findSizing 74 = .ok (.getfield 122, 3) := by decide +kernel
theorem dX7_findSizing_77 : decode cX7_findSizing 77 = .ok (.iadd, 1) := by decide +kernel
theorem dX7_findSizing_78 : decode cX7_findSizing 78 = .ok (.istore 4, 2) := by decide +kernel
theorem dX7_findSizing_80 : decode cX7_findSizing 80 = .ok (.iinc 5 1, 3) := by decide +kernel
theorem dX7_findSizing_83 : decode cX7_findSizing 83 = .ok (.goto (-60), 3) := by decide +kernel
theorem dX7_findSizing_86 : decode cX7_findSizing 86 = .ok (.iload_n 3, 1) := by decide +kernel
theorem dX7_findSizing_87 : decode cX7_findSizing 87 = .ok (.istore 5, 2) := by decide +kernel
theorem dX7_findSizing_89 : decode cX7_findSizing 89 = .ok (.iload 5, 2) := by decide +kernel
theorem dX7_findSizing_91 : decode cX7_findSizing 91 = .ok (.iload 4, 2) := by decide +kernel
theorem dX7_findSizing_93 : decode cX7_findSizing 93 = .ok (.if_icmp .gt 101, 3) := by decide +kernel
theorem dX7_findSizing_96 : decode cX7_findSizing 96 = .ok (.iconst 0, 1) := by decide +kernel
theorem dX7_findSizing_97 : decode cX7_findSizing 97 = .ok (.istore 6, 2) := by decide +kernel
theorem dX7_findSizing_99 : decode cX7_findSizing 99 = .ok (.iload 6, 2) := by decide +kernel
theorem dX7_findSizing_101 : decode cX7_findSizing 101 = .ok (.iload_n 2, 1) := by decide +kernel
theorem dX7_findSizing_102 : decode cX7_findSizing 102 = .ok (.if_icmp .ge 86, 3) := by decide +kernel
theorem dX7_findSizing_105 : decode cX7_findSizing 105 = .ok (.aload_n 0, 1) := by decide +kernel
theorem dX7_findSizing_106 : decode cX7_findSizing 106 = .ok (.aload_n 1, 1) := by decide +kernel
theorem dX7_findSizing_107 : decode cX7_findSizing 107 = .ok (.iload 6, 2) := by decide +kernel
theorem dX7_findSizing_109 : decode cX7_findSizing 109 = .ok (.invokevirtual 128, 3) := by decide +kernel
theorem dX7_findSizing_112 : decode cX7_findSizing 112 = .ok (.iload 5, 2) := by decide +kernel
theorem dX7_findSizing_114 : decode cX7_findSizing 114 = .ok (.if_icmp .eq 6, 3) := by decide +kernel
theorem dX7_findSizing_117 : decode cX7_findSizing 117 = .ok (.goto 65, 3) := by decide +kernel
theorem dX7_findSizing_120 : decode cX7_findSizing 120 = .ok (.iconst 0, 1) := by decide +kernel
theorem dX7_findSizing_121 : decode cX7_findSizing 121 = .ok (.istore 7, 2) := by decide +kernel
theorem dX7_findSizing_123 : decode cX7_findSizing 123 = .ok (.iload 7, 2) := by decide +kernel
theorem dX7_findSizing_125 : decode cX7_findSizing 125 = .ok (.aload_n 0, 1) := by decide +kernel
theorem dX7_findSizing_126 : decode cX7_findSizing 126 = .ok (.getfield 99, 3) := by decide +kernel
theorem dX7_findSizing_129 : decode cX7_findSizing 129 = .ok (.if_icmp .ge 34, 3) := by decide +kernel
theorem dX7_findSizing_132 : decode cX7_findSizing 132 = .ok (.aload_n 0, 1) := by decide +kernel
theorem dX7_findSizing_133 : decode cX7_findSizing 133 = .ok (.getfield 28, 3) := by decide +kernel
theorem dX7_findSizing_136 : decode cX7_findSizing 136 = .ok (.getfield 105, 3) := by decide +kernel
theorem dX7_findSizing_139 : decode cX7_findSizing 139 = .ok (.aload_n 0, 1) := by decide +kernel
theorem dX7_findSizing_140 : decode cX7_findSizing 140 = .ok (.getfield 9, 3) := by decide +kernel
theorem dX7_findSizing_143 : decode cX7_findSizing 143 = .ok (.iload 7, 2) := by decide +kernel
theorem dX7_findSizing_145 : decode cX7_findSizing 145 = .ok (.iaload, 1) := by decide +kernel
theorem dX7_findSizing_146 : decode cX7_findSizing 146 = .ok (.aaload, 1) := by decide +kernel
theorem dX7_findSizing_147 : decode cX7_findSizing 147 = .ok (.aload_n 0, 1) := by decide +kernel
theorem dX7_findSizing_148 : decode cX7_findSizing 148 = .ok (.getfield 15, 3) := by decide +kernel
theorem dX7_findSizing_151 : decode cX7_findSizing 151 = .ok (.iload 7, 2) := by decide +kernel
theorem dX7_findSizing_153 : decode cX7_findSizing 153 = .ok (.iaload, 1) := by decide +kernel
theorem dX7_findSizing_154 : decode cX7_findSizing 154 = .ok (.putfield 131, 3) := by decide +kernel
theorem dX7_findSizing_157 : decode cX7_findSizing 157 = .ok (.iinc 7 1, 3) := by decide +kernel
theorem dX7_findSizing_160 : decode cX7_findSizing 160 = .ok (.goto (-37), 3) := by decide +kernel
theorem dX7_findSizing_163 : decode cX7_findSizing 163 = .ok (.aload_n 0, 1) := by decide +kernel
theorem dX7_findSizing_164 : decode cX7_findSizing 164 = .ok (.aload_n 0, 1) := by decide +kernel
theorem dX7_findSizing_165 : decode cX7_findSizing 165 = .ok (.getfield 28, 3) := by decide +kernel
theorem dX7_findSizing_168 : decode cX7_findSizing 168 = .ok (.invokevirtual 134, 3) := by decide +kernel
theorem dX7_findSizing_171 : decode cX7_findSizing 171 = .ok (.ifCond .eq 11, 3) := by decide +kernel
theorem dX7_findSizing_174 : decode cX7_findSizing 174 = .ok (.aload_n 0, 1) := by decide +kernel
theorem dX7_findSizing_175 : decode cX7_findSizing 175 = .ok (.iload 5, 2) := by decide +kernel
theorem dX7_findSizing_177 : decode cX7_findSizing 177 = .ok (.putfield 138, 3) := by decide +kernel
theorem dX7_findSizing_180 : decode cX7_findSizing 180 = .ok (.iconst 1, 1) := by decide +kernel
theorem dX7_findSizing_181 : decode cX7_findSizing 181 = .ok (.ireturn, 1) := by decide +kernel
theorem dX7_findSizing_182 : decode cX7_findSizing 182 = .ok (.iinc 6 1, 3) := by decide +kernel
theorem dX7_findSizing_185 : decode cX7_findSizing 185 = .ok (.goto (-86), 3) := by decide +kernel
theorem dX7_findSizing_188 : decode cX7_findSizing 188 = .ok (.iinc 5 1, 3) := by decide +kernel
theorem dX7_findSizing_191 : decode cX7_findSizing 191 = .ok (.goto (-102), 3) := by decide +kernel
theorem dX7_findSizing_194 : decode cX7_findSizing 194 = .ok (.iconst 0, 1) := by decide +kernel
theorem dX7_findSizing_195 : decode cX7_findSizing 195 = .ok (.ireturn, 1) := by decide +kernel
theorem dX7_choose_0 : decode cX7_choose 0 = .ok (.iconst 0, 1) := by decide +kernel
theorem dX7_choose_1 : decode cX7_choose 1 = .ok (.istore_n 3, 1) := by decide +kernel
theorem dX7_choose_2 : decode cX7_choose 2 = .ok (.iload_n 2, 1) := by decide +kernel
theorem dX7_choose_3 : decode cX7_choose 3 = .ok (.istore 4, 2) := by decide +kernel
theorem dX7_choose_5 : decode cX7_choose 5 = .ok (.aload_n 0, 1) := by decide +kernel
theorem dX7_choose_6 : decode cX7_choose 6 = .ok (.getfield 99, 3) := by decide +kernel
theorem dX7_choose_9 : decode cX7_choose 9 = .ok (.iconst 1, 1) := by decide +kernel
theorem dX7_choose_10 : decode cX7_choose 10 = .ok (.isub, 1) := by decide +kernel
theorem dX7_choose_11 : decode cX7_choose 11 = .ok (.istore 5, 2) := by decide +kernel
theorem dX7_choose_13 : decode cX7_choose 13 = .ok (.iload 5, 2) := by decide +kernel
theorem dX7_choose_15 : decode cX7_choose 15 = .ok (.ifCond .lt 83, 3) := by decide +kernel
theorem dX7_choose_18 : decode cX7_choose 18 = .ok (.aload_n 1, 1) := by decide +kernel
theorem dX7_choose_19 : decode cX7_choose 19 = .ok (.getfield 105, 3) := by decide +kernel
theorem dX7_choose_22 : decode cX7_choose 22 = .ok (.aload_n 0, 1) := by decide +kernel
theorem dX7_choose_23 : decode cX7_choose 23 = .ok (.getfield 9, 3) := by decide +kernel
theorem dX7_choose_26 : decode cX7_choose 26 = .ok (.iload 5, 2) := by decide +kernel
theorem dX7_choose_28 : decode cX7_choose 28 = .ok (.iaload, 1) := by decide +kernel
theorem dX7_choose_29 : decode cX7_choose 29 = .ok (.aaload, 1) := by decide +kernel
theorem dX7_choose_30 : decode cX7_choose 30 = .ok (.astore 6, 2) := by decide +kernel
theorem dX7_choose_32 : decode cX7_choose 32 = .ok (.aload 6, 2) := by decide +kernel
theorem dX7_choose_34 : decode cX7_choose 34 = .ok (.getfield 122, 3) := by decide +kernel
theorem dX7_choose_37 : decode cX7_choose 37 = .ok (.aload 6, 2) := by decide +kernel
theorem dX7_choose_39 : decode cX7_choose 39 = .ok (.getfield 125, 3) := by decide +kernel
theorem dX7_choose_42 : decode cX7_choose 42 = .ok (.isub, 1) := by decide +kernel
theorem dX7_choose_43 : decode cX7_choose 43 = .ok (.iconst 1, 1) := by decide +kernel
theorem dX7_choose_44 : decode cX7_choose 44 = .ok (.iadd, 1) := by decide +kernel
theorem dX7_choose_45 : decode cX7_choose 45 = .ok (.istore 7, 2) := by decide +kernel
theorem dX7_choose_47 : decode cX7_choose 47 = .ok (.aload_n 0, 1) := by decide +kernel
theorem dX7_choose_48 : decode cX7_choose 48 = .ok (.getfield 15, 3) := by decide +kernel
theorem dX7_choose_51 : decode cX7_choose 51 = .ok (.iload 5, 2) := by decide +kernel
theorem dX7_choose_53 : decode cX7_choose 53 = .ok (.aload 6, 2) := by decide +kernel
theorem dX7_choose_55 : decode cX7_choose 55 = .ok (.getfield 125, 3) := by decide +kernel
theorem dX7_choose_58 : decode cX7_choose 58 = .ok (.iload 4, 2) := by decide +kernel
theorem dX7_choose_60 : decode cX7_choose 60 = .ok (.iload 7, 2) := by decide +kernel
theorem dX7_choose_62 : decode cX7_choose 62 = .ok (.iconst 1, 1) := by decide +kernel
theorem dX7_choose_63 : decode cX7_choose 63 = .ok (.invokestatic 141, 3) := by decide +kernel
theorem dX7_choose_66 : decode cX7_choose 66 = .ok (.invokestatic 146, 3) := by decide +kernel
theorem dX7_choose_69 : decode cX7_choose 69 = .ok (.iadd, 1) := by decide +kernel
theorem dX7_choose_70 : decode cX7_choose 70 = .ok (.iastore, 1) := by decide +kernel
theorem dX7_choose_71 : decode cX7_choose 71 = .ok (.iload 4, 2) := by decide +kernel
theorem dX7_choose_73 : decode cX7_choose 73 = .ok (.iload 7, 2) := by decide +kernel
theorem dX7_choose_75 : decode cX7_choose 75 = .ok (.iconst 1, 1) := by decide +kernel
theorem dX7_choose_76 : decode cX7_choose 76 = .ok (.invokestatic 141, 3) := by decide +kernel
theorem dX7_choose_79 : decode cX7_choose 79 = .ok (.idiv, 1) := by decide +kernel
theorem dX7_choose_80 : decode cX7_choose 80 = .ok (.istore 4, 2) := by decide +kernel
theorem dX7_choose_82 : decode cX7_choose 82 = .ok (.iload_n 3, 1) := by decide +kernel
theorem dX7_choose_83 : decode cX7_choose 83 = .ok (.aload_n 0, 1) := by decide +kernel
theorem dX7_choose_84 : decode cX7_choose 84 = .ok (.getfield 15, 3) := by decide +kernel
theorem dX7_choose_87 : decode cX7_choose 87 = .ok (.iload 5, 2) := by decide +kernel
theorem dX7_choose_89 : decode cX7_choose 89 = .ok (.iaload, 1) := by decide +kernel
theorem dX7_choose_90 : decode cX7_choose 90 = .ok (.iadd, 1) := by decide +kernel
theorem dX7_choose_91 : decode cX7_choose 91 = .ok (.istore_n 3, 1) := by decide +kernel
theorem dX7_choose_92 : decode cX7_choose 92 = .ok (.iinc 5 (-1), 3) := by decide +kernel
theorem dX7_choose_95 : decode cX7_choose 95 = .ok (.goto (-82), 3) := by decide +kernel
theorem dX7_choose_98 : decode cX7_choose 98 = .ok (.iload_n 3, 1) := by decide +kernel
theorem dX7_choose_99 : decode cX7_choose 99 = .ok (.ireturn, 1) := by decide +kernel
theorem dX7_isRight_0 : decode cX7_isRight 0 = .ok (.iload_n 2, 1) := by decide +kernel
theorem dX7_isRight_1 : decode cX7_isRight 1 = .ok (.aload_n 0, 1) := by decide +kernel
theorem dX7_isRight_2 : decode cX7_isRight 2 = .ok (.getfield 99, 3) := by decide +kernel
theorem dX7_isRight_5 : decode cX7_isRight 5 = .ok (.if_icmp .ge 13, 3) := by decide +kernel
theorem dX7_isRight_8 : decode cX7_isRight 8 = .ok (.aload_n 0, 1) := by decide +kernel
theorem dX7_isRight_9 : decode cX7_isRight 9 = .ok (.getfield 9, 3) := by decide +kernel
theorem dX7_isRight_12 : decode cX7_isRight 12 = .ok (.iload_n 2, 1) := by decide +kernel
theorem dX7_isRight_13 : decode cX7_isRight 13 = .ok (.iaload, 1) := by decide +kernel
theorem dX7_isRight_14 : decode cX7_isRight 14 = .ok (.iload_n 3, 1) := by decide +kernel
theorem dX7_isRight_15 : decode cX7_isRight 15 = .ok (.if_icmp .eq 5, 3) := by decide +kernel
theorem dX7_isRight_18 : decode cX7_isRight 18 = .ok (.iconst 0, 1) := by decide +kernel
theorem dX7_isRight_19 : decode cX7_isRight 19 = .ok (.ireturn, 1) := by decide +kernel
theorem dX7_isRight_20 : decode cX7_isRight 20 = .ok (.iload 4, 2) := by decide +kernel
theorem dX7_isRight_22 : decode cX7_isRight 22 = .ok (.aload_n 1, 1) := by decide +kernel
theorem dX7_isRight_23 : decode cX7_isRight 23 = .ok (.getfield 105, 3) := by decide +kernel
theorem dX7_isRight_26 : decode cX7_isRight 26 = .ok (.iload_n 3, 1) := by decide +kernel
theorem dX7_isRight_27 : decode cX7_isRight 27 = .ok (.aaload, 1) := by decide +kernel
theorem dX7_isRight_28 : decode cX7_isRight 28 = .ok (.getfield 125, 3) := by decide +kernel
theorem dX7_isRight_31 : decode cX7_isRight 31 = .ok (.aload_n 1, 1) := by decide +kernel
theorem dX7_isRight_32 : decode cX7_isRight 32 = .ok (.getfield 105, 3) := by decide +kernel
theorem dX7_isRight_35 : decode cX7_isRight 35 = .ok (.iload_n 3, 1) := by decide +kernel
theorem dX7_isRight_36 : decode cX7_isRight 36 = .ok (.aaload, 1) := by decide +kernel
theorem dX7_isRight_37 : decode cX7_isRight 37 = .ok (.getfield 122, 3) := by decide +kernel
theorem dX7_isRight_40 : decode cX7_isRight 40 = .ok (.invokestatic 149, 3) := by decide +kernel
theorem dX7_isRight_43 : decode cX7_isRight 43 = .ok (.ireturn, 1) := by decide +kernel
theorem dX7_missingWith_0 : decode cX7_missingWith 0 = .ok (.aload_n 0, 1) := by decide +kernel
theorem dX7_missingWith_1 : decode cX7_missingWith 1 = .ok (.getfield 28, 3) := by decide +kernel
theorem dX7_missingWith_4 : decode cX7_missingWith 4 = .ok (.aload_n 1, 1) := by decide +kernel
theorem dX7_missingWith_5 : decode cX7_missingWith 5 = .ok (.invokevirtual 119, 3) := by decide +kernel
theorem dX7_missingWith_8 : decode cX7_missingWith 8 = .ok (.iconst 0, 1) := by decide +kernel
theorem dX7_missingWith_9 : decode cX7_missingWith 9 = .ok (.istore_n 3, 1) := by decide +kernel
theorem dX7_missingWith_10 : decode cX7_missingWith 10 = .ok (.iload_n 3, 1) := by decide +kernel
theorem dX7_missingWith_11 : decode cX7_missingWith 11 = .ok (.aload_n 0, 1) := by decide +kernel
theorem dX7_missingWith_12 : decode cX7_missingWith 12 = .ok (.getfield 99, 3) := by decide +kernel
theorem dX7_missingWith_15 : decode cX7_missingWith 15 = .ok (.if_icmp .ge 35, 3) := by decide +kernel
theorem dX7_missingWith_18 : decode cX7_missingWith 18 = .ok (.iload_n 3, 1) := by decide +kernel
theorem dX7_missingWith_19 : decode cX7_missingWith 19 = .ok (.aload_n 2, 1) := by decide +kernel
theorem dX7_missingWith_20 : decode cX7_missingWith 20 = .ok (.arraylength, 1) := by decide +kernel
theorem dX7_missingWith_21 : decode cX7_missingWith 21 = .ok (.if_icmp .ge 29, 3) := by decide +kernel
theorem dX7_missingWith_24 : decode cX7_missingWith 24 = .ok (.aload_n 0, 1) := by decide +kernel
theorem dX7_missingWith_25 : decode cX7_missingWith 25 = .ok (.getfield 28, 3) := by decide +kernel
theorem dX7_missingWith_28 : decode cX7_missingWith 28 = .ok (.getfield 105, 3) := by decide +kernel
theorem dX7_missingWith_31 : decode cX7_missingWith 31 = .ok (.aload_n 0, 1) := by decide +kernel
theorem dX7_missingWith_32 : decode cX7_missingWith 32 = .ok (.getfield 9, 3) := by decide +kernel
theorem dX7_missingWith_35 : decode cX7_missingWith 35 = .ok (.iload_n 3, 1) := by decide +kernel
theorem dX7_missingWith_36 : decode cX7_missingWith 36 = .ok (.iaload, 1) := by decide +kernel
theorem dX7_missingWith_37 : decode cX7_missingWith 37 = .ok (.aaload, 1) := by decide +kernel
theorem dX7_missingWith_38 : decode cX7_missingWith 38 = .ok (.aload_n 2, 1) := by decide +kernel
theorem dX7_missingWith_39 : decode cX7_missingWith 39 = .ok (.iload_n 3, 1) := by decide +kernel
theorem dX7_missingWith_40 : decode cX7_missingWith 40 = .ok (.iaload, 1) := by decide +kernel
theorem dX7_missingWith_41 : decode cX7_missingWith 41 = .ok (.putfield 131, 3) := by decide +kernel
theorem dX7_missingWith_44 : decode cX7_missingWith 44 = .ok (.iinc 3 1, 3) := by decide +kernel
theorem dX7_missingWith_47 : decode cX7_missingWith 47 = .ok (.goto (-37), 3) := by decide +kernel
theorem dX7_missingWith_50 : decode cX7_missingWith 50 = .ok (.aload_n 0, 1) := by decide +kernel
theorem dX7_missingWith_51 : decode cX7_missingWith 51 = .ok (.aload_n 0, 1) := by decide +kernel
theorem dX7_missingWith_52 : decode cX7_missingWith 52 = .ok (.getfield 28, 3) := by decide +kernel
theorem dX7_missingWith_55 : decode cX7_missingWith 55 = .ok (.invokevirtual 153, 3) := by decide +kernel
theorem dX7_missingWith_58 : decode cX7_missingWith 58 = .ok (.ireturn, 1) := by decide +kernel
theorem dX7_reach_0 : decode cX7_reach 0 = .ok (.aload_n 0, 1) := by decide +kernel
theorem dX7_reach_1 : decode cX7_reach 1 = .ok (.aload_n 1, 1) := by decide +kernel
theorem dX7_reach_2 : decode cX7_reach 2 = .ok (.invokevirtual 134, 3) := by decide +kernel
theorem dX7_reach_5 : decode cX7_reach 5 = .ok (.ifCond .ne 6, 3) := by decide +kernel
theorem dX7_reach_8 : decode cX7_reach 8 = .ok (.bipush (-5), 2) := by decide +kernel
theorem dX7_reach_10 : decode cX7_reach 10 = .ok (.ireturn, 1) := by decide +kernel
theorem dX7_reach_11 : decode cX7_reach 11 = .ok (.aload_n 0, 1) := by decide +kernel
theorem dX7_reach_12 : decode cX7_reach 12 = .ok (.getfield 28, 3) := by decide +kernel
theorem dX7_reach_15 : decode cX7_reach 15 = .ok (.aload_n 1, 1) := by decide +kernel
theorem dX7_reach_16 : decode cX7_reach 16 = .ok (.invokevirtual 119, 3) := by decide +kernel
theorem dX7_reach_19 : decode cX7_reach 19 = .ok (.iconst 1, 1) := by decide +kernel
theorem dX7_reach_20 : decode cX7_reach 20 = .ok (.istore 4, 2) := by decide +kernel
theorem dX7_reach_22 : decode cX7_reach 22 = .ok (.iload 4, 2) := by decide +kernel
theorem dX7_reach_24 : decode cX7_reach 24 = .ok (.bipush 9, 2) := by decide +kernel
theorem dX7_reach_26 : decode cX7_reach 26 = .ok (.if_icmp .gt 71, 3) := by decide +kernel
theorem dX7_reach_29 : decode cX7_reach 29 = .ok (.aload_n 1, 1) := by decide +kernel
theorem dX7_reach_30 : decode cX7_reach 30 = .ok (.getfield 105, 3) := by decide +kernel
theorem dX7_reach_33 : decode cX7_reach 33 = .ok (.iload_n 2, 1) := by decide +kernel
theorem dX7_reach_34 : decode cX7_reach 34 = .ok (.aaload, 1) := by decide +kernel
theorem dX7_reach_35 : decode cX7_reach 35 = .ok (.getfield 131, 3) := by decide +kernel
theorem dX7_reach_38 : decode cX7_reach 38 = .ok (.iload 4, 2) := by decide +kernel
theorem dX7_reach_40 : decode cX7_reach 40 = .ok (.iload_n 3, 1) := by decide +kernel
theorem dX7_reach_41 : decode cX7_reach 41 = .ok (.imul, 1) := by decide +kernel
theorem dX7_reach_42 : decode cX7_reach 42 = .ok (.iadd, 1) := by decide +kernel
theorem dX7_reach_43 : decode cX7_reach 43 = .ok (.istore 5, 2) := by decide +kernel
theorem dX7_reach_45 : decode cX7_reach 45 = .ok (.iload 5, 2) := by decide +kernel
theorem dX7_reach_47 : decode cX7_reach 47 = .ok (.iconst 1, 1) := by decide +kernel
theorem dX7_reach_48 : decode cX7_reach 48 = .ok (.bipush 9, 2) := by decide +kernel
theorem dX7_reach_50 : decode cX7_reach 50 = .ok (.invokestatic 149, 3) := by decide +kernel
theorem dX7_reach_53 : decode cX7_reach 53 = .ok (.ifCond .ne 8, 3) := by decide +kernel
theorem dX7_reach_56 : decode cX7_reach 56 = .ok (.iload 4, 2) := by decide +kernel
theorem dX7_reach_58 : decode cX7_reach 58 = .ok (.iconst 1, 1) := by decide +kernel
theorem dX7_reach_59 : decode cX7_reach 59 = .ok (.isub, 1) := by decide +kernel
theorem dX7_reach_60 : decode cX7_reach 60 = .ok (.ireturn, 1) := by decide +kernel
theorem dX7_reach_61 : decode cX7_reach 61 = .ok (.aload_n 0, 1) := by decide +kernel
theorem dX7_reach_62 : decode cX7_reach 62 = .ok (.getfield 28, 3) := by decide +kernel
theorem dX7_reach_65 : decode cX7_reach 65 = .ok (.getfield 105, 3) := by decide +kernel
theorem dX7_reach_68 : decode cX7_reach 68 = .ok (.iload_n 2, 1) := by decide +kernel
theorem dX7_reach_69 : decode cX7_reach 69 = .ok (.aaload, 1) := by decide +kernel
theorem dX7_reach_70 : decode cX7_reach 70 = .ok (.iload 5, 2) := by decide +kernel
theorem dX7_reach_72 : decode cX7_reach 72 = .ok (.putfield 131, 3) := by decide +kernel
theorem dX7_reach_75 : decode cX7_reach 75 = .ok (.aload_n 0, 1) := by decide +kernel
theorem dX7_reach_76 : decode cX7_reach 76 = .ok (.aload_n 0, 1) := by decide +kernel
theorem dX7_reach_77 : decode cX7_reach 77 = .ok (.getfield 28, 3) := by decide +kernel
theorem dX7_reach_80 : decode cX7_reach 80 = .ok (.invokevirtual 134, 3) := by decide +kernel
theorem dX7_reach_83 : decode cX7_reach 83 = .ok (.ifCond .ne 8, 3) := by decide +kernel
theorem dX7_reach_86 : decode cX7_reach 86 = .ok (.iload 4, 2) := by decide +kernel
theorem dX7_reach_88 : decode cX7_reach 88 = .ok (.iconst 1, 1) := by decide +kernel
theorem dX7_reach_89 : decode cX7_reach 89 = .ok (.isub, 1) := by decide +kernel
theorem dX7_reach_90 : decode cX7_reach 90 = .ok (.ireturn, 1) := by decide +kernel
theorem dX7_reach_91 : decode cX7_reach 91 = .ok (.iinc 4 1, 3) := by decide +kernel
theorem dX7_reach_94 : decode cX7_reach 94 = .ok (.goto (-72), 3) := by decide +kernel
theorem dX7_reach_97 : decode cX7_reach 97 = .ok (.bipush 9, 2) := by decide +kernel
theorem dX7_reach_99 : decode cX7_reach 99 = .ok (.ireturn, 1) := by decide +kernel
theorem dX7_fallen_0 : decode cX7_fallen 0 = .ok (.aload_n 0, 1) := by decide +kernel
theorem dX7_fallen_1 : decode cX7_fallen 1 = .ok (.getfield 28, 3) := by decide +kernel
theorem dX7_fallen_4 : decode cX7_fallen 4 = .ok (.aload_n 1, 1) := by decide +kernel
theorem dX7_fallen_5 : decode cX7_fallen 5 = .ok (.invokevirtual 119, 3) := by decide +kernel
theorem dX7_fallen_8 : decode cX7_fallen 8 = .ok (.aload_n 0, 1) := by decide +kernel
theorem dX7_fallen_9 : decode cX7_fallen 9 = .ok (.getfield 28, 3) := by decide +kernel
theorem dX7_fallen_12 : decode cX7_fallen 12 = .ok (.getfield 105, 3) := by decide +kernel
theorem dX7_fallen_15 : decode cX7_fallen 15 = .ok (.iload_n 2, 1) := by decide +kernel
theorem dX7_fallen_16 : decode cX7_fallen 16 = .ok (.aaload, 1) := by decide +kernel
theorem dX7_fallen_17 : decode cX7_fallen 17 = .ok (.iload_n 3, 1) := by decide +kernel
theorem dX7_fallen_18 : decode cX7_fallen 18 = .ok (.putfield 157, 3) := by decide +kernel
theorem dX7_fallen_21 : decode cX7_fallen 21 = .ok (.aload_n 0, 1) := by decide +kernel
theorem dX7_fallen_22 : decode cX7_fallen 22 = .ok (.aload_n 0, 1) := by decide +kernel
theorem dX7_fallen_23 : decode cX7_fallen 23 = .ok (.getfield 28, 3) := by decide +kernel
theorem dX7_fallen_26 : decode cX7_fallen 26 = .ok (.invokevirtual 153, 3) := by decide +kernel
theorem dX7_fallen_29 : decode cX7_fallen 29 = .ok (.istore 4, 2) := by decide +kernel
theorem dX7_fallen_31 : decode cX7_fallen 31 = .ok (.aload_n 0, 1) := by decide +kernel
theorem dX7_fallen_32 : decode cX7_fallen 32 = .ok (.getfield 28, 3) := by decide +kernel
theorem dX7_fallen_35 : decode cX7_fallen 35 = .ok (.getfield 105, 3) := by decide +kernel
theorem dX7_fallen_38 : decode cX7_fallen 38 = .ok (.iload_n 2, 1) := by decide +kernel
theorem dX7_fallen_39 : decode cX7_fallen 39 = .ok (.aaload, 1) := by decide +kernel
theorem dX7_fallen_40 : decode cX7_fallen 40 = .ok (.iconst 0, 1) := by decide +kernel
theorem dX7_fallen_41 : decode cX7_fallen 41 = .ok (.putfield 157, 3) := by decide +kernel
theorem dX7_fallen_44 : decode cX7_fallen 44 = .ok (.iload 4, 2) := by decide +kernel
theorem dX7_fallen_46 : decode cX7_fallen 46 = .ok (.aload_n 0, 1) := by decide +kernel
theorem dX7_fallen_47 : decode cX7_fallen 47 = .ok (.aload_n 0, 1) := by decide +kernel
theorem dX7_fallen_48 : decode cX7_fallen 48 = .ok (.getfield 28, 3) := by decide +kernel
theorem dX7_fallen_51 : decode cX7_fallen 51 = .ok (.invokevirtual 153, 3) := by decide +kernel
theorem dX7_fallen_54 : decode cX7_fallen 54 = .ok (.iconst (-1), 1) := by decide +kernel
theorem dX7_fallen_55 : decode cX7_fallen 55 = .ok (.ixor, 1) := by decide +kernel
theorem dX7_fallen_56 : decode cX7_fallen 56 = .ok (.iand, 1) := by decide +kernel
theorem dX7_fallen_57 : decode cX7_fallen 57 = .ok (.ireturn, 1) := by decide +kernel
theorem dX7_fewestChanges_0 : decode cX7_fewestChanges 0 = .ok (.aload_n 0, 1) := by decide +kernel
theorem dX7_fewestChanges_1 : decode cX7_fewestChanges 1 = .ok (.getfield 28, 3) := by decide +kernel
theorem dX7_fewestChanges_4 : decode cX7_fewestChanges 4 = .ok (.aload_n 1, 1) := by decide +kernel
theorem dX7_fewestChanges_5 : decode cX7_fewestChanges 5 = .ok (.invokevirtual 119, 3) := by decide +kernel
theorem dX7_fewestChanges_8 : decode cX7_fewestChanges 8 = .ok (.iconst 0, 1) := by decide +kernel
theorem dX7_fewestChanges_9 : decode cX7_fewestChanges 9 = .ok (.istore_n 2, 1) := by decide +kernel
theorem dX7_fewestChanges_10 : decode cX7_fewestChanges 10 = .ok (.iload_n 2, 1) := by decide +kernel
theorem dX7_fewestChanges_11 : decode cX7_fewestChanges 11 = .ok (.aload_n 1, 1) := by decide +kernel
theorem dX7_fewestChanges_12 : decode cX7_fewestChanges 12 = .ok (.getfield 160, 3) := by decide +kernel
theorem dX7_fewestChanges_15 : decode cX7_fewestChanges 15 = .ok (.if_icmp .gt 46, 3) := by decide +kernel
theorem dX7_fewestChanges_18 : decode cX7_fewestChanges 18 = .ok (.iconst 0, 1) := by decide +kernel
theorem dX7_fewestChanges_19 : decode cX7_fewestChanges 19 = .ok (.istore_n 3, 1) := by decide +kernel
theorem dX7_fewestChanges_20 : decode cX7_fewestChanges 20 = .ok (.iload_n 3, 1) := by decide +kernel
theorem dX7_fewestChanges_21 : decode cX7_fewestChanges 21 = .ok (.iconst 1, 1) := by decide +kernel
theorem dX7_fewestChanges_22 : decode cX7_fewestChanges 22 = .ok (.aload_n 1, 1) := by decide +kernel
theorem dX7_fewestChanges_23 : decode cX7_fewestChanges 23 = .ok (.getfield 160, 3) := by decide +kernel
theorem dX7_fewestChanges_26 : decode cX7_fewestChanges 26 = .ok (.ishl, 1) := by decide +kernel
theorem dX7_fewestChanges_27 : decode cX7_fewestChanges 27 = .ok (.if_icmp .ge 28, 3) := by decide +kernel
theorem dX7_fewestChanges_30 : decode cX7_fewestChanges 30 = .ok (.iload_n 3, 1) := by decide +kernel
theorem dX7_fewestChanges_31 : decode cX7_fewestChanges 31 = .ok (.invokestatic 163, 3) := by decide +kernel
theorem dX7_fewestChanges_34 : decode cX7_fewestChanges 34 = .ok (.iload_n 2, 1) := by decide +kernel
theorem dX7_fewestChanges_35 : decode cX7_fewestChanges 35 = .ok (.if_icmp .ne 14, 3) := by decide +kernel
theorem dX7_fewestChanges_38 : decode cX7_fewestChanges 38 = .ok (.aload_n 0, 1) := by decide +kernel
theorem dX7_fewestChanges_39 : decode cX7_fewestChanges 39 = .ok (.aload_n 1, 1) := by decide +kernel
theorem dX7_fewestChanges_40 : decode cX7_fewestChanges 40 = .ok (.iload_n 3, 1) := by decide +kernel
theorem dX7_fewestChanges_41 : decode cX7_fewestChanges 41 = .ok (.invokevirtual 168, 3) := by decide +kernel
theorem dX7_fewestChanges_44 : decode cX7_fewestChanges 44 = .ok (.ifCond .eq 5, 3) := by decide +kernel
theorem dX7_fewestChanges_47 : decode cX7_fewestChanges 47 = .ok (.iload_n 3, 1) := by decide +kernel
theorem dX7_fewestChanges_48 : decode cX7_fewestChanges 48 = .ok (.ireturn, 1) := by decide +kernel
theorem dX7_fewestChanges_49 : decode cX7_fewestChanges 49 = .ok (.iinc 3 1, 3) := by decide +kernel
theorem dX7_fewestChanges_52 : decode cX7_fewestChanges 52 = .ok (.goto (-32), 3) := by decide +kernel
theorem dX7_fewestChanges_55 : decode cX7_fewestChanges 55 = .ok (.iinc 2 1, 3) := by decide +kernel
theorem dX7_fewestChanges_58 : decode cX7_fewestChanges 58 = .ok (.goto (-48), 3) := by decide +kernel
theorem dX7_fewestChanges_61 : decode cX7_fewestChanges 61 = .ok (.bipush (-3), 2) := by decide +kernel
theorem dX7_fewestChanges_63 : decode cX7_fewestChanges 63 = .ok (.ireturn, 1) := by decide +kernel
theorem dX7_helps_0 : decode cX7_helps 0 = .ok (.aload_n 0, 1) := by decide +kernel
theorem dX7_helps_1 : decode cX7_helps 1 = .ok (.getfield 28, 3) := by decide +kernel
theorem dX7_helps_4 : decode cX7_helps 4 = .ok (.aload_n 1, 1) := by decide +kernel
theorem dX7_helps_5 : decode cX7_helps 5 = .ok (.invokevirtual 172, 3) := by decide +kernel
theorem dX7_helps_8 : decode cX7_helps 8 = .ok (.iconst 0, 1) := by decide +kernel
theorem dX7_helps_9 : decode cX7_helps 9 = .ok (.istore_n 3, 1) := by decide +kernel
theorem dX7_helps_10 : decode cX7_helps 10 = .ok (.iload_n 3, 1) := by decide +kernel
theorem dX7_helps_11 : decode cX7_helps 11 = .ok (.aload_n 1, 1) := by decide +kernel
theorem dX7_helps_12 : decode cX7_helps 12 = .ok (.getfield 160, 3) := by decide +kernel
theorem dX7_helps_15 : decode cX7_helps 15 = .ok (.if_icmp .ge 40, 3) := by decide +kernel
theorem dX7_helps_18 : decode cX7_helps 18 = .ok (.iload_n 2, 1) := by decide +kernel
theorem dX7_helps_19 : decode cX7_helps 19 = .ok (.iload_n 3, 1) := by decide +kernel
theorem dX7_helps_20 : decode cX7_helps 20 = .ok (.ishr, 1) := by decide +kernel
theorem dX7_helps_21 : decode cX7_helps 21 = .ok (.iconst 1, 1) := by decide +kernel
theorem dX7_helps_22 : decode cX7_helps 22 = .ok (.iand, 1) := by decide +kernel
theorem dX7_helps_23 : decode cX7_helps 23 = .ok (.ifCond .eq 26, 3) := by decide +kernel
theorem dX7_helps_26 : decode cX7_helps 26 = .ok (.aload_n 0, 1) := by decide +kernel
theorem dX7_helps_27 : decode cX7_helps 27 = .ok (.getfield 28, 3) := by decide +kernel
theorem dX7_helps_30 : decode cX7_helps 30 = .ok (.getfield 105, 3) := by decide +kernel
theorem dX7_helps_33 : decode cX7_helps 33 = .ok (.aload_n 1, 1) := by decide +kernel
theorem dX7_helps_34 : decode cX7_helps 34 = .ok (.getfield 175, 3) := by decide +kernel
theorem dX7_helps_37 : decode cX7_helps 37 = .ok (.iload_n 3, 1) := by decide +kernel
theorem dX7_helps_38 : decode cX7_helps 38 = .ok (.iaload, 1) := by decide +kernel
theorem dX7_helps_39 : decode cX7_helps 39 = .ok (.aaload, 1) := by decide +kernel
theorem dX7_helps_40 : decode cX7_helps 40 = .ok (.aload_n 1, 1) := by decide +kernel
theorem dX7_helps_41 : decode cX7_helps 41 = .ok (.getfield 178, 3) := by decide +kernel
theorem dX7_helps_44 : decode cX7_helps 44 = .ok (.iload_n 3, 1) := by decide +kernel
theorem dX7_helps_45 : decode cX7_helps 45 = .ok (.iaload, 1) := by decide +kernel
theorem dX7_helps_46 : decode cX7_helps 46 = .ok (.invokevirtual 181, 3) := by decide +kernel
theorem dX7_helps_49 : decode cX7_helps 49 = .ok (.iinc 3 1, 3) := by decide +kernel
theorem dX7_helps_52 : decode cX7_helps 52 = .ok (.goto (-42), 3) := by decide +kernel
theorem dX7_helps_55 : decode cX7_helps 55 = .ok (.aload_n 0, 1) := by decide +kernel
theorem dX7_helps_56 : decode cX7_helps 56 = .ok (.aload_n 0, 1) := by decide +kernel
theorem dX7_helps_57 : decode cX7_helps 57 = .ok (.getfield 28, 3) := by decide +kernel
theorem dX7_helps_60 : decode cX7_helps 60 = .ok (.invokevirtual 134, 3) := by decide +kernel
theorem dX7_helps_63 : decode cX7_helps 63 = .ok (.ireturn, 1) := by decide +kernel
theorem dX7_suspects_0 : decode cX7_suspects 0 = .ok (.aload_n 0, 1) := by decide +kernel
theorem dX7_suspects_1 : decode cX7_suspects 1 = .ok (.getfield 28, 3) := by decide +kernel
theorem dX7_suspects_4 : decode cX7_suspects 4 = .ok (.aload_n 1, 1) := by decide +kernel
theorem dX7_suspects_5 : decode cX7_suspects 5 = .ok (.invokevirtual 119, 3) := by decide +kernel
theorem dX7_suspects_8 : decode cX7_suspects 8 = .ok (.aload_n 0, 1) := by decide +kernel
theorem dX7_suspects_9 : decode cX7_suspects 9 = .ok (.invokevirtual 184, 3) := by decide +kernel
theorem dX7_suspects_12 : decode cX7_suspects 12 = .ok (.ifCond .eq 5, 3) := by decide +kernel
theorem dX7_suspects_15 : decode cX7_suspects 15 = .ok (.iconst 0, 1) := by decide +kernel
theorem dX7_suspects_16 : decode cX7_suspects 16 = .ok (.ireturn, 1) := by decide +kernel
theorem dX7_suspects_17 : decode cX7_suspects 17 = .ok (.iconst 0, 1) := by decide +kernel
theorem dX7_suspects_18 : decode cX7_suspects 18 = .ok (.istore_n 2, 1) := by decide +kernel
theorem dX7_suspects_19 : decode cX7_suspects 19 = .ok (.iload_n 2, 1) := by decide +kernel
theorem dX7_suspects_20 : decode cX7_suspects 20 = .ok (.aload_n 1, 1) := by decide +kernel
theorem dX7_suspects_21 : decode cX7_suspects 21 = .ok (.getfield 102, 3) := by decide +kernel
theorem dX7_suspects_24 : decode cX7_suspects 24 = .ok (.if_icmp .ge 22, 3) := by decide +kernel
theorem dX7_suspects_27 : decode cX7_suspects 27 = .ok (.aload_n 0, 1) := by decide +kernel
theorem dX7_suspects_28 : decode cX7_suspects 28 = .ok (.aload_n 1, 1) := by decide +kernel
theorem dX7_suspects_29 : decode cX7_suspects 29 = .ok (.iload_n 2, 1) := by decide +kernel
theorem dX7_suspects_30 : decode cX7_suspects 30 = .ok (.invokevirtual 187, 3) := by decide +kernel
theorem dX7_suspects_33 : decode cX7_suspects 33 = .ok (.ifCond .eq 7, 3) := by decide +kernel
theorem dX7_suspects_36 : decode cX7_suspects 36 = .ok (.iconst 1, 1) := by decide +kernel
theorem dX7_suspects_37 : decode cX7_suspects 37 = .ok (.iload_n 2, 1) := by decide +kernel
theorem dX7_suspects_38 : decode cX7_suspects 38 = .ok (.ishl, 1) := by decide +kernel
theorem dX7_suspects_39 : decode cX7_suspects 39 = .ok (.ireturn, 1) := by decide +kernel
theorem dX7_suspects_40 : decode cX7_suspects 40 = .ok (.iinc 2 1, 3) := by decide +kernel
theorem dX7_suspects_43 : decode cX7_suspects 43 = .ok (.goto (-24), 3) := by decide +kernel
theorem dX7_suspects_46 : decode cX7_suspects 46 = .ok (.iconst 1, 1) := by decide +kernel
theorem dX7_suspects_47 : decode cX7_suspects 47 = .ok (.istore_n 2, 1) := by decide +kernel
theorem dX7_suspects_48 : decode cX7_suspects 48 = .ok (.iload_n 2, 1) := by decide +kernel
theorem dX7_suspects_49 : decode cX7_suspects 49 = .ok (.aload_n 1, 1) := by decide +kernel
theorem dX7_suspects_50 : decode cX7_suspects 50 = .ok (.getfield 102, 3) := by decide +kernel
theorem dX7_suspects_53 : decode cX7_suspects 53 = .ok (.if_icmp .ge 107, 3) := by decide +kernel
theorem dX7_suspects_56 : decode cX7_suspects 56 = .ok (.iconst 0, 1) := by decide +kernel
theorem dX7_suspects_57 : decode cX7_suspects 57 = .ok (.istore_n 3, 1) := by decide +kernel
theorem dX7_suspects_58 : decode cX7_suspects 58 = .ok (.iload_n 3, 1) := by decide +kernel
theorem dX7_suspects_59 : decode cX7_suspects 59 = .ok (.iload_n 2, 1) := by decide +kernel
theorem dX7_suspects_60 : decode cX7_suspects 60 = .ok (.if_icmp .ge 94, 3) := by decide +kernel
theorem dX7_suspects_63 : decode cX7_suspects 63 = .ok (.iconst 1, 1) := by decide +kernel
theorem dX7_suspects_64 : decode cX7_suspects 64 = .ok (.istore 4, 2) := by decide +kernel
theorem dX7_suspects_66 : decode cX7_suspects 66 = .ok (.iload 4, 2) := by decide +kernel
theorem dX7_suspects_68 : decode cX7_suspects 68 = .ok (.bipush 9, 2) := by decide +kernel
theorem dX7_suspects_70 : decode cX7_suspects 70 = .ok (.if_icmp .gt 57, 3) := by decide +kernel
theorem dX7_suspects_73 : decode cX7_suspects 73 = .ok (.iload 4, 2) := by decide +kernel
theorem dX7_suspects_75 : decode cX7_suspects 75 = .ok (.aload_n 1, 1) := by decide +kernel
theorem dX7_suspects_76 : decode cX7_suspects 76 = .ok (.getfield 105, 3) := by decide +kernel
theorem dX7_suspects_79 : decode cX7_suspects 79 = .ok (.iload_n 3, 1) := by decide +kernel
theorem dX7_suspects_80 : decode cX7_suspects 80 = .ok (.aaload, 1) := by decide +kernel
theorem dX7_suspects_81 : decode cX7_suspects 81 = .ok (.getfield 131, 3) := by decide +kernel
theorem dX7_suspects_84 : decode cX7_suspects 84 = .ok (.if_icmp .ne 6, 3) := by decide +kernel
theorem dX7_suspects_87 : decode cX7_suspects 87 = .ok (.goto 34, 3) := by decide +kernel
theorem dX7_suspects_90 : decode cX7_suspects 90 = .ok (.aload_n 0, 1) := by decide +kernel
theorem dX7_suspects_91 : decode cX7_suspects 91 = .ok (.getfield 28, 3) := by decide +kernel
theorem dX7_suspects_94 : decode cX7_suspects 94 = .ok (.getfield 105, 3) := by decide +kernel
theorem dX7_suspects_97 : decode cX7_suspects 97 = .ok (.iload_n 3, 1) := by decide +kernel
theorem dX7_suspects_98 : decode cX7_suspects 98 = .ok (.aaload, 1) := by decide +kernel
theorem dX7_suspects_99 : decode cX7_suspects 99 = .ok (.iload 4, 2) := by decide +kernel
theorem dX7_suspects_101 : decode cX7_suspects 101 = .ok (.putfield 131, 3) := by decide +kernel
theorem dX7_suspects_104 : decode cX7_suspects 104 = .ok (.aload_n 0, 1) := by decide +kernel
theorem dX7_suspects_105 : decode cX7_suspects 105 = .ok (.aload_n 1, 1) := by decide +kernel
theorem dX7_suspects_106 : decode cX7_suspects 106 = .ok (.iload_n 2, 1) := by decide +kernel
theorem dX7_suspects_107 : decode cX7_suspects 107 = .ok (.invokevirtual 187, 3) := by decide +kernel
theorem dX7_suspects_110 : decode cX7_suspects 110 = .ok (.ifCond .eq 11, 3) := by decide +kernel
theorem dX7_suspects_113 : decode cX7_suspects 113 = .ok (.iconst 1, 1) := by decide +kernel
theorem dX7_suspects_114 : decode cX7_suspects 114 = .ok (.iload_n 3, 1) := by decide +kernel
theorem dX7_suspects_115 : decode cX7_suspects 115 = .ok (.ishl, 1) := by decide +kernel
theorem dX7_suspects_116 : decode cX7_suspects 116 = .ok (.iconst 1, 1) := by decide +kernel
theorem dX7_suspects_117 : decode cX7_suspects 117 = .ok (.iload_n 2, 1) := by decide +kernel
theorem dX7_suspects_118 : decode cX7_suspects 118 = .ok (.ishl, 1) := by decide +kernel
theorem dX7_suspects_119 : decode cX7_suspects 119 = .ok (.ior, 1) := by decide +kernel
theorem dX7_suspects_120 : decode cX7_suspects 120 = .ok (.ireturn, 1) := by decide +kernel
theorem dX7_suspects_121 : decode cX7_suspects 121 = .ok (.iinc 4 1, 3) := by decide +kernel
theorem dX7_suspects_124 : decode cX7_suspects 124 = .ok (.goto (-58), 3) := by decide +kernel
theorem dX7_suspects_127 : decode cX7_suspects 127 = .ok (.aload_n 0, 1) := by decide +kernel
theorem dX7_suspects_128 : decode cX7_suspects 128 = .ok (.getfield 28, 3) := by decide +kernel
theorem dX7_suspects_131 : decode cX7_suspects 131 = .ok (.getfield 105, 3) := by decide +kernel
theorem dX7_suspects_134 : decode cX7_suspects 134 = .ok (.iload_n 3, 1) := by decide +kernel
theorem dX7_suspects_135 : decode cX7_suspects 135 = .ok (.aaload, 1) := by decide +kernel
theorem dX7_suspects_136 : decode cX7_suspects 136 = .ok (.aload_n 1, 1) := by decide +kernel
theorem dX7_suspects_137 : decode cX7_suspects 137 = .ok (.getfield 105, 3) := by decide +kernel
theorem dX7_suspects_140 : decode cX7_suspects 140 = .ok (.iload_n 3, 1) := by decide +kernel
theorem dX7_suspects_141 : decode cX7_suspects 141 = .ok (.aaload, 1) := by decide +kernel
theorem dX7_suspects_142 : decode cX7_suspects 142 = .ok (.getfield 131, 3) := by decide +kernel
theorem dX7_suspects_145 : decode cX7_suspects 145 = .ok (.putfield 131, 3) := by decide +kernel
theorem dX7_suspects_148 : decode cX7_suspects 148 = .ok (.iinc 3 1, 3) := by decide +kernel
theorem dX7_suspects_151 : decode cX7_suspects 151 = .ok (.goto (-93), 3) := by decide +kernel
theorem dX7_suspects_154 : decode cX7_suspects 154 = .ok (.iinc 2 1, 3) := by decide +kernel
theorem dX7_suspects_157 : decode cX7_suspects 157 = .ok (.goto (-109), 3) := by decide +kernel
theorem dX7_suspects_160 : decode cX7_suspects 160 = .ok (.bipush (-3), 2) := by decide +kernel
theorem dX7_suspects_162 : decode cX7_suspects 162 = .ok (.ireturn, 1) := by decide +kernel
theorem dX7_someSizeFits_0 : decode cX7_someSizeFits 0 = .ok (.iconst 0, 1) := by decide +kernel
theorem dX7_someSizeFits_1 : decode cX7_someSizeFits 1 = .ok (.istore_n 3, 1) := by decide +kernel
theorem dX7_someSizeFits_2 : decode cX7_someSizeFits 2 = .ok (.iconst 1, 1) := by decide +kernel
theorem dX7_someSizeFits_3 : decode cX7_someSizeFits 3 = .ok (.istore 4, 2) := by decide +kernel
theorem dX7_someSizeFits_5 : decode cX7_someSizeFits 5 = .ok (.iload 4, 2) := by decide +kernel
theorem dX7_someSizeFits_7 : decode cX7_someSizeFits 7 = .ok (.bipush 9, 2) := by decide +kernel
theorem dX7_someSizeFits_9 : decode cX7_someSizeFits 9 = .ok (.if_icmp .gt 49, 3) := by decide +kernel
theorem dX7_someSizeFits_12 : decode cX7_someSizeFits 12 = .ok (.iload_n 3, 1) := by decide +kernel
theorem dX7_someSizeFits_13 : decode cX7_someSizeFits 13 = .ok (.ifCond .ne 45, 3) := by decide +kernel
theorem dX7_someSizeFits_16 : decode cX7_someSizeFits 16 = .ok (.iload 4, 2) := by decide +kernel
theorem dX7_someSizeFits_18 : decode cX7_someSizeFits 18 = .ok (.aload_n 1, 1) := by decide +kernel
theorem dX7_someSizeFits_19 : decode cX7_someSizeFits 19 = .ok (.getfield 105, 3) := by decide +kernel
theorem dX7_someSizeFits_22 : decode cX7_someSizeFits 22 = .ok (.iload_n 2, 1) := by decide +kernel
theorem dX7_someSizeFits_23 : decode cX7_someSizeFits 23 = .ok (.aaload, 1) := by decide +kernel
theorem dX7_someSizeFits_24 : decode cX7_someSizeFits 24 = .ok (.getfield 131, 3) := by decide +kernel
theorem dX7_someSizeFits_27 : decode cX7_someSizeFits 27 = .ok (.if_icmp .ne 6, 3) := by decide +kernel
theorem dX7_someSizeFits_30 : decode cX7_someSizeFits 30 = .ok (.goto 22, 3) := by decide +kernel
theorem dX7_someSizeFits_33 : decode cX7_someSizeFits 33 = .ok (.aload_n 0, 1) := by decide +kernel
theorem dX7_someSizeFits_34 : decode cX7_someSizeFits 34 = .ok (.getfield 28, 3) := by decide +kernel
theorem dX7_someSizeFits_37 : decode cX7_someSizeFits 37 = .ok (.getfield 105, 3) := by decide +kernel
theorem dX7_someSizeFits_40 : decode cX7_someSizeFits 40 = .ok (.iload_n 2, 1) := by decide +kernel
theorem dX7_someSizeFits_41 : decode cX7_someSizeFits 41 = .ok (.aaload, 1) := by decide +kernel
theorem dX7_someSizeFits_42 : decode cX7_someSizeFits 42 = .ok (.iload 4, 2) := by decide +kernel
theorem dX7_someSizeFits_44 : decode cX7_someSizeFits 44 = .ok (.putfield 131, 3) := by decide +kernel
theorem dX7_someSizeFits_47 : decode cX7_someSizeFits 47 = .ok (.aload_n 0, 1) := by decide +kernel
theorem dX7_someSizeFits_48 : decode cX7_someSizeFits 48 = .ok (.invokevirtual 184, 3) := by decide +kernel
theorem dX7_someSizeFits_51 : decode cX7_someSizeFits 51 = .ok (.istore_n 3, 1) := by decide +kernel
theorem dX7_someSizeFits_52 : decode cX7_someSizeFits 52 = .ok (.iinc 4 1, 3) := by decide +kernel
theorem dX7_someSizeFits_55 : decode cX7_someSizeFits 55 = .ok (.goto (-50), 3) := by decide +kernel
theorem dX7_someSizeFits_58 : decode cX7_someSizeFits 58 = .ok (.aload_n 0, 1) := by decide +kernel
theorem dX7_someSizeFits_59 : decode cX7_someSizeFits 59 = .ok (.getfield 28, 3) := by decide +kernel
theorem dX7_someSizeFits_62 : decode cX7_someSizeFits 62 = .ok (.getfield 105, 3) := by decide +kernel
theorem dX7_someSizeFits_65 : decode cX7_someSizeFits 65 = .ok (.iload_n 2, 1) := by decide +kernel
theorem dX7_someSizeFits_66 : decode cX7_someSizeFits 66 = .ok (.aaload, 1) := by decide +kernel
theorem dX7_someSizeFits_67 : decode cX7_someSizeFits 67 = .ok (.aload_n 1, 1) := by decide +kernel
theorem dX7_someSizeFits_68 : decode cX7_someSizeFits 68 = .ok (.getfield 105, 3) := by decide +kernel
theorem dX7_someSizeFits_71 : decode cX7_someSizeFits 71 = .ok (.iload_n 2, 1) := by decide +kernel
theorem dX7_someSizeFits_72 : decode cX7_someSizeFits 72 = .ok (.aaload, 1) := by decide +kernel
theorem dX7_someSizeFits_73 : decode cX7_someSizeFits 73 = .ok (.getfield 131, 3) := by decide +kernel
theorem dX7_someSizeFits_76 : decode cX7_someSizeFits 76 = .ok (.putfield 131, 3) := by decide +kernel
theorem dX7_someSizeFits_79 : decode cX7_someSizeFits 79 = .ok (.iload_n 3, 1) := by decide +kernel
theorem dX7_someSizeFits_80 : decode cX7_someSizeFits 80 = .ok (.ireturn, 1) := by decide +kernel
theorem dX7_isAsMeasured_0 : decode cX7_isAsMeasured 0 = .ok (.aload_n 0, 1) := by decide +kernel
theorem dX7_isAsMeasured_1 : decode cX7_isAsMeasured 1 = .ok (.getfield 21, 3) := by decide +kernel
theorem dX7_isAsMeasured_4 : decode cX7_isAsMeasured 4 = .ok (.aload_n 0, 1) := by decide +kernel
theorem dX7_isAsMeasured_5 : decode cX7_isAsMeasured 5 = .ok (.getfield 28, 3) := by decide +kernel
theorem dX7_isAsMeasured_8 : decode cX7_isAsMeasured 8 = .ok (.iconst 4, 1) := by decide +kernel
theorem dX7_isAsMeasured_9 : decode cX7_isAsMeasured 9 = .ok (.aload_n 0, 1) := by decide +kernel
theorem dX7_isAsMeasured_10 : decode cX7_isAsMeasured 10 = .ok (.getfield 28, 3) := by decide +kernel
theorem dX7_isAsMeasured_13 : decode cX7_isAsMeasured 13 = .ok (.getfield 45, 3) := by decide +kernel
theorem dX7_isAsMeasured_16 : decode cX7_isAsMeasured 16 = .ok (.invokevirtual 48, 3) := by decide +kernel
theorem dX7_isAsMeasured_19 : decode cX7_isAsMeasured 19 = .ok (.aload_n 0, 1) := by decide +kernel
theorem dX7_isAsMeasured_20 : decode cX7_isAsMeasured 20 = .ok (.getfield 21, 3) := by decide +kernel
theorem dX7_isAsMeasured_23 : decode cX7_isAsMeasured 23 = .ok (.aload_n 0, 1) := by decide +kernel
theorem dX7_isAsMeasured_24 : decode cX7_isAsMeasured 24 = .ok (.getfield 28, 3) := by decide +kernel
theorem dX7_isAsMeasured_27 : decode cX7_isAsMeasured 27 = .ok (.getfield 52, 3) := by decide +kernel
theorem dX7_isAsMeasured_30 : decode cX7_isAsMeasured 30 = .ok (.invokevirtual 55, 3) := by decide +kernel
theorem dX7_isAsMeasured_33 : decode cX7_isAsMeasured 33 = .ok (.iconst 2, 1) := by decide +kernel
theorem dX7_isAsMeasured_34 : decode cX7_isAsMeasured 34 = .ok (.istore_n 1, 1) := by decide +kernel
theorem dX7_isAsMeasured_35 : decode cX7_isAsMeasured 35 = .ok (.iload_n 1, 1) := by decide +kernel
theorem dX7_isAsMeasured_36 : decode cX7_isAsMeasured 36 = .ok (.iconst 4, 1) := by decide +kernel
theorem dX7_isAsMeasured_37 : decode cX7_isAsMeasured 37 = .ok (.if_icmp .gt 44, 3) := by decide +kernel
theorem dX7_isAsMeasured_40 : decode cX7_isAsMeasured 40 = .ok (.aload_n 0, 1) := by decide +kernel
theorem dX7_isAsMeasured_41 : decode cX7_isAsMeasured 41 = .ok (.getfield 28, 3) := by decide +kernel
theorem dX7_isAsMeasured_44 : decode cX7_isAsMeasured 44 = .ok (.getfield 190, 3) := by decide +kernel
theorem dX7_isAsMeasured_47 : decode cX7_isAsMeasured 47 = .ok (.iload_n 1, 1) := by decide +kernel
theorem dX7_isAsMeasured_48 : decode cX7_isAsMeasured 48 = .ok (.iaload, 1) := by decide +kernel
theorem dX7_isAsMeasured_49 : decode cX7_isAsMeasured 49 = .ok (.ifCond .lt 26, 3) := by decide +kernel
theorem dX7_isAsMeasured_52 : decode cX7_isAsMeasured 52 = .ok (.aload_n 0, 1) := by decide +kernel
theorem dX7_isAsMeasured_53 : decode cX7_isAsMeasured 53 = .ok (.getfield 28, 3) := by decide +kernel
theorem dX7_isAsMeasured_56 : decode cX7_isAsMeasured 56 = .ok (.getfield 190, 3) := by decide +kernel
theorem dX7_isAsMeasured_59 : decode cX7_isAsMeasured 59 = .ok (.iload_n 1, 1) := by decide +kernel
theorem dX7_isAsMeasured_60 : decode cX7_isAsMeasured 60 = .ok (.iaload, 1) := by decide +kernel
theorem dX7_isAsMeasured_61 : decode cX7_isAsMeasured 61 = .ok (.aload_n 0, 1) := by decide +kernel
theorem dX7_isAsMeasured_62 : decode cX7_isAsMeasured 62 = .ok (.getfield 21, 3) := by decide +kernel
theorem dX7_isAsMeasured_65 : decode cX7_isAsMeasured 65 = .ok (.getfield 85, 3) := by decide +kernel
theorem dX7_isAsMeasured_68 : decode cX7_isAsMeasured 68 = .ok (.iload_n 1, 1) := by decide +kernel
theorem dX7_isAsMeasured_69 : decode cX7_isAsMeasured 69 = .ok (.iaload, 1) := by decide +kernel
theorem dX7_isAsMeasured_70 : decode cX7_isAsMeasured 70 = .ok (.if_icmp .eq 5, 3) := by decide +kernel
theorem dX7_isAsMeasured_73 : decode cX7_isAsMeasured 73 = .ok (.iconst 0, 1) := by decide +kernel
theorem dX7_isAsMeasured_74 : decode cX7_isAsMeasured 74 = .ok (.ireturn, 1) := by decide +kernel
theorem dX7_isAsMeasured_75 : decode cX7_isAsMeasured 75 = .ok (.iinc 1 1, 3) := by decide +kernel
theorem dX7_isAsMeasured_78 : decode cX7_isAsMeasured 78 = .ok (.goto (-43), 3) := by decide +kernel
theorem dX7_isAsMeasured_81 : decode cX7_isAsMeasured 81 = .ok (.iconst 1, 1) := by decide +kernel
theorem dX7_isAsMeasured_82 : decode cX7_isAsMeasured 82 = .ok (.ireturn, 1) := by decide +kernel
theorem dX8_init_0 : decode cX8_init 0 = .ok (.aload_n 0, 1) := by decide +kernel
theorem dX8_init_1 : decode cX8_init 1 = .ok (.invokespecial 3, 3) := by decide +kernel
theorem dX8_init_4 : decode cX8_init 4 = .ok (.aload_n 0, 1) := by decide +kernel
theorem dX8_init_5 : decode cX8_init 5 = .ok (.sipush 220, 3) := by decide +kernel
theorem dX8_init_8 : decode cX8_init 8 = .ok (.newarray .int, 2) := by decide +kernel
theorem dX8_init_10 : decode cX8_init 10 = .ok (.putfield 9, 3) := by decide +kernel
theorem dX8_init_13 : decode cX8_init 13 = .ok (.aload_n 0, 1) := by decide +kernel
theorem dX8_init_14 : decode cX8_init 14 = .ok (.bipush 9, 2) := by decide +kernel
theorem dX8_init_16 : decode cX8_init 16 = .ok (.newarray .int, 2) := by decide +kernel
theorem dX8_init_18 : decode cX8_init 18 = .ok (.putfield 15, 3) := by decide +kernel
theorem dX8_init_21 : decode cX8_init 21 = .ok (.return_, 1) := by decide +kernel
theorem dX8_clear_0 : decode cX8_clear 0 = .ok (.aload_n 0, 1) := by decide +kernel
theorem dX8_clear_1 : decode cX8_clear 1 = .ok (.iconst 0, 1) := by decide +kernel
theorem dX8_clear_2 : decode cX8_clear 2 = .ok (.putfield 18, 3) := by decide +kernel
theorem dX8_clear_5 : decode cX8_clear 5 = .ok (.aload_n 0, 1) := by decide +kernel
theorem dX8_clear_6 : decode cX8_clear 6 = .ok (.iconst 0, 1) := by decide +kernel
theorem dX8_clear_7 : decode cX8_clear 7 = .ok (.putfield 22, 3) := by decide +kernel
theorem dX8_clear_10 : decode cX8_clear 10 = .ok (.return_, 1) := by decide +kernel
theorem dX8_add_0 : decode cX8_add 0 = .ok (.aload_n 0, 1) := by decide +kernel
theorem dX8_add_1 : decode cX8_add 1 = .ok (.getfield 22, 3) := by decide +kernel
theorem dX8_add_4 : decode cX8_add 4 = .ok (.sipush 220, 3) := by decide +kernel
theorem dX8_add_7 : decode cX8_add 7 = .ok (.if_icmp .lt 4, 3) := by decide +kernel
theorem dX8_add_10 : decode cX8_add 10 = .ok (.return_, 1) := by decide +kernel
theorem dX8_add_11 : decode cX8_add 11 = .ok (.aload_n 0, 1) := by decide +kernel
theorem dX8_add_12 : decode cX8_add 12 = .ok (.getfield 9, 3) := by decide +kernel
theorem dX8_add_15 : decode cX8_add 15 = .ok (.aload_n 0, 1) := by decide +kernel
theorem dX8_add_16 : decode cX8_add 16 = .ok (.getfield 22, 3) := by decide +kernel
theorem dX8_add_19 : decode cX8_add 19 = .ok (.iload_n 1, 1) := by decide +kernel
theorem dX8_add_20 : decode cX8_add 20 = .ok (.sipush 1000, 3) := by decide +kernel
theorem dX8_add_23 : decode cX8_add 23 = .ok (.imul, 1) := by decide +kernel
theorem dX8_add_24 : decode cX8_add 24 = .ok (.iload_n 2, 1) := by decide +kernel
theorem dX8_add_25 : decode cX8_add 25 = .ok (.iadd, 1) := by decide +kernel
theorem dX8_add_26 : decode cX8_add 26 = .ok (.iastore, 1) := by decide +kernel
theorem dX8_add_27 : decode cX8_add 27 = .ok (.aload_n 0, 1) := by decide +kernel
theorem dX8_add_28 : decode cX8_add 28 = .ok (.dup, 1) := by decide +kernel
theorem dX8_add_29 : decode cX8_add 29 = .ok (.getfield 22, 3) := by decide +kernel
theorem dX8_add_32 : decode cX8_add 32 = .ok (.iconst 1, 1) := by decide +kernel
theorem dX8_add_33 : decode cX8_add 33 = .ok (.iadd, 1) := by decide +kernel
theorem dX8_add_34 : decode cX8_add 34 = .ok (.putfield 22, 3) := by decide +kernel
theorem dX8_add_37 : decode cX8_add 37 = .ok (.return_, 1) := by decide +kernel
theorem dX8_close_0 : decode cX8_close 0 = .ok (.aload_n 0, 1) := by decide +kernel
theorem dX8_close_1 : decode cX8_close 1 = .ok (.getfield 18, 3) := by decide +kernel
theorem dX8_close_4 : decode cX8_close 4 = .ok (.bipush 8, 2) := by decide +kernel
theorem dX8_close_6 : decode cX8_close 6 = .ok (.if_icmp .lt 4, 3) := by decide +kernel
theorem dX8_close_9 : decode cX8_close 9 = .ok (.return_, 1) := by decide +kernel
theorem dX8_close_10 : decode cX8_close 10 = .ok (.aload_n 0, 1) := by decide +kernel
theorem dX8_close_11 : decode cX8_close 11 = .ok (.dup, 1) := by decide +kernel
theorem dX8_close_12 : decode cX8_close 12 = .ok (.getfield 18, 3) := by decide +kernel
theorem dX8_close_15 : decode cX8_close 15 = .ok (.iconst 1, 1) := by decide +kernel
theorem dX8_close_16 : decode cX8_close 16 = .ok (.iadd, 1) := by decide +kernel
theorem dX8_close_17 : decode cX8_close 17 = .ok (.putfield 18, 3) := by decide +kernel
theorem dX8_close_20 : decode cX8_close 20 = .ok (.aload_n 0, 1) := by decide +kernel
theorem dX8_close_21 : decode cX8_close 21 = .ok (.getfield 15, 3) := by decide +kernel
theorem dX8_close_24 : decode cX8_close 24 = .ok (.aload_n 0, 1) := by decide +kernel
theorem dX8_close_25 : decode cX8_close 25 = .ok (.getfield 18, 3) := by decide +kernel
theorem dX8_close_28 : decode cX8_close 28 = .ok (.aload_n 0, 1) := by decide +kernel
theorem dX8_close_29 : decode cX8_close 29 = .ok (.getfield 22, 3) := by decide +kernel
theorem dX8_close_32 : decode cX8_close 32 = .ok (.iastore, 1) := by decide +kernel
theorem dX8_close_33 : decode cX8_close 33 = .ok (.return_, 1) := by decide +kernel
theorem dX8_all_0 : decode cX8_all 0 = .ok (.iconst 1, 1) := by decide +kernel
theorem dX8_all_1 : decode cX8_all 1 = .ok (.aload_n 0, 1) := by decide +kernel
theorem dX8_all_2 : decode cX8_all 2 = .ok (.getfield 18, 3) := by decide +kernel
theorem dX8_all_5 : decode cX8_all 5 = .ok (.ishl, 1) := by decide +kernel
theorem dX8_all_6 : decode cX8_all 6 = .ok (.iconst 1, 1) := by decide +kernel
theorem dX8_all_7 : decode cX8_all 7 = .ok (.isub, 1) := by decide +kernel
theorem dX8_all_8 : decode cX8_all 8 = .ok (.ireturn, 1) := by decide +kernel
theorem dX8_copyFrom_0 : decode cX8_copyFrom 0 = .ok (.aload_n 0, 1) := by decide +kernel
theorem dX8_copyFrom_1 : decode cX8_copyFrom 1 = .ok (.aload_n 1, 1) := by decide +kernel
theorem dX8_copyFrom_2 : decode cX8_copyFrom 2 = .ok (.getfield 18, 3) := by decide +kernel
theorem dX8_copyFrom_5 : decode cX8_copyFrom 5 = .ok (.putfield 18, 3) := by decide +kernel
theorem dX8_copyFrom_8 : decode cX8_copyFrom 8 = .ok (.aload_n 0, 1) := by decide +kernel
theorem dX8_copyFrom_9 : decode cX8_copyFrom 9 = .ok (.aload_n 1, 1) := by decide +kernel
theorem dX8_copyFrom_10 : decode cX8_copyFrom 10 = .ok (.getfield 22, 3) := by decide +kernel
theorem dX8_copyFrom_13 : decode cX8_copyFrom 13 = .ok (.putfield 22, 3) := by decide +kernel
theorem dX8_copyFrom_16 : decode cX8_copyFrom 16 = .ok (.aload_n 1, 1) := by decide +kernel
theorem dX8_copyFrom_17 : decode cX8_copyFrom 17 = .ok (.getfield 9, 3) := by decide +kernel
theorem dX8_copyFrom_20 : decode cX8_copyFrom 20 = .ok (.iconst 0, 1) := by decide +kernel
theorem dX8_copyFrom_21 : decode cX8_copyFrom 21 = .ok (.aload_n 0, 1) := by decide +kernel
theorem dX8_copyFrom_22 : decode cX8_copyFrom 22 = .ok (.getfield 9, 3) := by decide +kernel
theorem dX8_copyFrom_25 : decode cX8_copyFrom 25 = .ok (.iconst 0, 1) := by decide +kernel
theorem dX8_copyFrom_26 : decode cX8_copyFrom 26 = .ok (.aload_n 0, 1) := by decide +kernel
theorem dX8_copyFrom_27 : decode cX8_copyFrom 27 = .ok (.getfield 22, 3) := by decide +kernel
theorem dX8_copyFrom_30 : decode cX8_copyFrom 30 = .ok (.invokestatic 25, 3) := by decide +kernel
theorem dX8_copyFrom_33 : decode cX8_copyFrom 33 = .ok (.aload_n 1, 1) := by decide +kernel
theorem dX8_copyFrom_34 : decode cX8_copyFrom 34 = .ok (.getfield 15, 3) := by decide +kernel
theorem dX8_copyFrom_37 : decode cX8_copyFrom 37 = .ok (.iconst 0, 1) := by decide +kernel
theorem dX8_copyFrom_38 : decode cX8_copyFrom 38 = .ok (.aload_n 0, 1) := by decide +kernel
theorem dX8_copyFrom_39 : decode cX8_copyFrom 39 = .ok (.getfield 15, 3) := by decide +kernel
theorem dX8_copyFrom_42 : decode cX8_copyFrom 42 = .ok (.iconst 0, 1) := by decide +kernel
theorem dX8_copyFrom_43 : decode cX8_copyFrom 43 = .ok (.aload_n 0, 1) := by decide +kernel
theorem dX8_copyFrom_44 : decode cX8_copyFrom 44 = .ok (.getfield 18, 3) := by decide +kernel
theorem dX8_copyFrom_47 : decode cX8_copyFrom 47 = .ok (.iconst 1, 1) := by decide +kernel
theorem dX8_copyFrom_48 : decode cX8_copyFrom 48 = .ok (.iadd, 1) := by decide +kernel
theorem dX8_copyFrom_49 : decode cX8_copyFrom 49 = .ok (.invokestatic 25, 3) := by decide +kernel
theorem dX8_copyFrom_52 : decode cX8_copyFrom 52 = .ok (.return_, 1) := by decide +kernel
theorem dX9_init_0 : decode cX9_init 0 = .ok (.aload_n 0, 1) := by decide +kernel
theorem dX9_init_1 : decode cX9_init 1 = .ok (.invokespecial 1, 3) := by decide +kernel
theorem dX9_init_4 : decode cX9_init 4 = .ok (.aload_n 0, 1) := by decide +kernel
theorem dX9_init_5 : decode cX9_init 5 = .ok (.new 7, 3) := by decide +kernel
theorem dX9_init_8 : decode cX9_init 8 = .ok (.dup, 1) := by decide +kernel
theorem dX9_init_9 : decode cX9_init 9 = .ok (.invokespecial 9, 3) := by decide +kernel
theorem dX9_init_12 : decode cX9_init 12 = .ok (.putfield 10, 3) := by decide +kernel
theorem dX9_init_15 : decode cX9_init 15 = .ok (.aload_n 0, 1) := by decide +kernel
theorem dX9_init_16 : decode cX9_init 16 = .ok (.new 7, 3) := by decide +kernel
theorem dX9_init_19 : decode cX9_init 19 = .ok (.dup, 1) := by decide +kernel
theorem dX9_init_20 : decode cX9_init 20 = .ok (.invokespecial 9, 3) := by decide +kernel
theorem dX9_init_23 : decode cX9_init 23 = .ok (.putfield 16, 3) := by decide +kernel
theorem dX9_init_26 : decode cX9_init 26 = .ok (.aload_n 0, 1) := by decide +kernel
theorem dX9_init_27 : decode cX9_init 27 = .ok (.new 19, 3) := by decide +kernel
theorem dX9_init_30 : decode cX9_init 30 = .ok (.dup, 1) := by decide +kernel
theorem dX9_init_31 : decode cX9_init 31 = .ok (.invokespecial 21, 3) := by decide +kernel
theorem dX9_init_34 : decode cX9_init 34 = .ok (.putfield 22, 3) := by decide +kernel
theorem dX9_init_37 : decode cX9_init 37 = .ok (.aload_n 0, 1) := by decide +kernel
theorem dX9_init_38 : decode cX9_init 38 = .ok (.aload_n 0, 1) := by decide +kernel
theorem dX9_init_39 : decode cX9_init 39 = .ok (.getfield 22, 3) := by decide +kernel
theorem dX9_init_42 : decode cX9_init 42 = .ok (.getfield 26, 3) := by decide +kernel
theorem dX9_init_45 : decode cX9_init 45 = .ok (.putfield 30, 3) := by decide +kernel
theorem dX9_init_48 : decode cX9_init 48 = .ok (.aload_n 0, 1) := by decide +kernel
theorem dX9_init_49 : decode cX9_init 49 = .ok (.new 31, 3) := by decide +kernel
theorem dX9_init_52 : decode cX9_init 52 = .ok (.dup, 1) := by decide +kernel
theorem dX9_init_53 : decode cX9_init 53 = .ok (.invokespecial 33, 3) := by decide +kernel
theorem dX9_init_56 : decode cX9_init 56 = .ok (.putfield 34, 3) := by decide +kernel
theorem dX9_init_59 : decode cX9_init 59 = .ok (.aload_n 0, 1) := by decide +kernel
theorem dX9_init_60 : decode cX9_init 60 = .ok (.new 38, 3) := by decide +kernel
theorem dX9_init_63 : decode cX9_init 63 = .ok (.dup, 1) := by decide +kernel
theorem dX9_init_64 : decode cX9_init 64 = .ok (.invokespecial 40, 3) := by decide +kernel
theorem dX9_init_67 : decode cX9_init 67 = .ok (.putfield 41, 3) := by decide +kernel
theorem dX9_init_70 : decode cX9_init 70 = .ok (.aload_n 0, 1) := by decide +kernel
theorem dX9_init_71 : decode cX9_init 71 = .ok (.new 45, 3) := by decide +kernel
theorem dX9_init_74 : decode cX9_init 74 = .ok (.dup, 1) := by decide +kernel
theorem dX9_init_75 : decode cX9_init 75 = .ok (.invokespecial 47, 3) := by decide +kernel
theorem dX9_init_78 : decode cX9_init 78 = .ok (.putfield 48, 3) := by decide +kernel
theorem dX9_init_81 : decode cX9_init 81 = .ok (.aload_n 0, 1) := by decide +kernel
theorem dX9_init_82 : decode cX9_init 82 = .ok (.new 52, 3) := by decide +kernel
theorem dX9_init_85 : decode cX9_init 85 = .ok (.dup, 1) := by decide +kernel
theorem dX9_init_86 : decode cX9_init 86 = .ok (.invokespecial 54, 3) := by decide +kernel
theorem dX9_init_89 : decode cX9_init 89 = .ok (.putfield 55, 3) := by decide +kernel
theorem dX9_init_92 : decode cX9_init 92 = .ok (.aload_n 0, 1) := by decide +kernel
theorem dX9_init_93 : decode cX9_init 93 = .ok (.iconst 4, 1) := by decide +kernel
theorem dX9_init_94 : decode cX9_init 94 = .ok (.newarray .int, 2) := by decide +kernel
theorem dX9_init_96 : decode cX9_init 96 = .ok (.putfield 59, 3) := by decide +kernel
theorem dX9_init_99 : decode cX9_init 99 = .ok (.aload_n 0, 1) := by decide +kernel
theorem dX9_init_100 : decode cX9_init 100 = .ok (.iconst 4, 1) := by decide +kernel
theorem dX9_init_101 : decode cX9_init 101 = .ok (.newarray .int, 2) := by decide +kernel
theorem dX9_init_103 : decode cX9_init 103 = .ok (.putfield 63, 3) := by decide +kernel
theorem dX9_init_106 : decode cX9_init 106 = .ok (.aload_n 0, 1) := by decide +kernel
theorem dX9_init_107 : decode cX9_init 107 = .ok (.iconst 0, 1) := by decide +kernel
theorem dX9_init_108 : decode cX9_init 108 = .ok (.putfield 66, 3) := by decide +kernel
theorem dX9_init_111 : decode cX9_init 111 = .ok (.aload_n 0, 1) := by decide +kernel
theorem dX9_init_112 : decode cX9_init 112 = .ok (.iconst 0, 1) := by decide +kernel
theorem dX9_init_113 : decode cX9_init 113 = .ok (.putfield 70, 3) := by decide +kernel
theorem dX9_init_116 : decode cX9_init 116 = .ok (.return_, 1) := by decide +kernel
theorem dX9_table_0 : decode cX9_table 0 = .ok (.iload_n 1, 1) := by decide +kernel
theorem dX9_table_1 : decode cX9_table 1 = .ok (.iconst 0, 1) := by decide +kernel
theorem dX9_table_2 : decode cX9_table 2 = .ok (.iconst 3, 1) := by decide +kernel
theorem dX9_table_3 : decode cX9_table 3 = .ok (.invokestatic 74, 3) := by decide +kernel
theorem dX9_table_6 : decode cX9_table 6 = .ok (.ifCond .ne 5, 3) := by decide +kernel
theorem dX9_table_9 : decode cX9_table 9 = .ok (.iconst (-1), 1) := by decide +kernel
theorem dX9_table_10 : decode cX9_table 10 = .ok (.ireturn, 1) := by decide +kernel
theorem dX9_table_11 : decode cX9_table 11 = .ok (.aload_n 0, 1) := by decide +kernel
theorem dX9_table_12 : decode cX9_table 12 = .ok (.getfield 48, 3) := by decide +kernel
theorem dX9_table_15 : decode cX9_table 15 = .ok (.iload_n 1, 1) := by decide +kernel
theorem dX9_table_16 : decode cX9_table 16 = .ok (.iconst 0, 1) := by decide +kernel
theorem dX9_table_17 : decode cX9_table 17 = .ok (.invokevirtual 78, 3) := by decide +kernel
theorem dX9_table_20 : decode cX9_table 20 = .ok (.istore_n 2, 1) := by decide +kernel
theorem dX9_table_21 : decode cX9_table 21 = .ok (.iload_n 2, 1) := by decide +kernel
theorem dX9_table_22 : decode cX9_table 22 = .ok (.ifCond .eq 5, 3) := by decide +kernel
theorem dX9_table_25 : decode cX9_table 25 = .ok (.iload_n 2, 1) := by decide +kernel
theorem dX9_table_26 : decode cX9_table 26 = .ok (.ireturn, 1) := by decide +kernel
theorem dX9_table_27 : decode cX9_table 27 = .ok (.aload_n 0, 1) := by decide +kernel
theorem dX9_table_28 : decode cX9_table 28 = .ok (.getfield 48, 3) := by decide +kernel
theorem dX9_table_31 : decode cX9_table 31 = .ok (.iload_n 1, 1) := by decide +kernel
theorem dX9_table_32 : decode cX9_table 32 = .ok (.invokevirtual 82, 3) := by decide +kernel
theorem dX9_table_35 : decode cX9_table 35 = .ok (.ifCond .ne 6, 3) := by decide +kernel
theorem dX9_table_38 : decode cX9_table 38 = .ok (.bipush (-4), 2) := by decide +kernel
theorem dX9_table_40 : decode cX9_table 40 = .ok (.ireturn, 1) := by decide +kernel
theorem dX9_table_41 : decode cX9_table 41 = .ok (.aload_n 0, 1) := by decide +kernel
theorem dX9_table_42 : decode cX9_table 42 = .ok (.getfield 10, 3) := by decide +kernel
theorem dX9_table_45 : decode cX9_table 45 = .ok (.getfield 86, 3) := by decide +kernel
theorem dX9_table_48 : decode cX9_table 48 = .ok (.iconst 4, 1) := by decide +kernel
theorem dX9_table_49 : decode cX9_table 49 = .ok (.if_icmp .lt 6, 3) := by decide +kernel
theorem dX9_table_52 : decode cX9_table 52 = .ok (.bipush (-2), 2) := by decide +kernel
theorem dX9_table_54 : decode cX9_table 54 = .ok (.ireturn, 1) := by decide +kernel
theorem dX9_table_55 : decode cX9_table 55 = .ok (.iconst 0, 1) := by decide +kernel
theorem dX9_table_56 : decode cX9_table 56 = .ok (.istore_n 3, 1) := by decide +kernel
theorem dX9_table_57 : decode cX9_table 57 = .ok (.iload_n 3, 1) := by decide +kernel
theorem dX9_table_58 : decode cX9_table 58 = .ok (.bipush 21, 2) := by decide +kernel
theorem dX9_table_60 : decode cX9_table 60 = .ok (.if_icmp .ge 38, 3) := by decide +kernel
theorem dX9_table_63 : decode cX9_table 63 = .ok (.aload_n 0, 1) := by decide +kernel
theorem dX9_table_64 : decode cX9_table 64 = .ok (.getfield 10, 3) := by decide +kernel
theorem dX9_table_67 : decode cX9_table 67 = .ok (.getfield 89, 3) := by decide +kernel
theorem dX9_table_70 : decode cX9_table 70 = .ok (.aload_n 0, 1) := by decide +kernel
theorem dX9_table_71 : decode cX9_table 71 = .ok (.getfield 10, 3) := by decide +kernel
theorem dX9_table_74 : decode cX9_table 74 = .ok (.getfield 86, 3) := by decide +kernel
theorem dX9_table_77 : decode cX9_table 77 = .ok (.bipush 21, 2) := by decide +kernel
theorem dX9_table_79 : decode cX9_table 79 = .ok (.imul, 1) := by decide +kernel
theorem dX9_table_80 : decode cX9_table 80 = .ok (.iload_n 3, 1) := by decide +kernel
theorem dX9_table_81 : decode cX9_table 81 = .ok (.iadd, 1) := by decide +kernel
theorem dX9_table_82 : decode cX9_table 82 = .ok (.aload_n 0, 1) := by decide +kernel
theorem dX9_table_83 : decode cX9_table 83 = .ok (.getfield 48, 3) := by decide +kernel
theorem dX9_table_86 : decode cX9_table 86 = .ok (.iload_n 1, 1) := by decide +kernel
theorem dX9_table_87 : decode cX9_table 87 = .ok (.iload_n 3, 1) := by decide +kernel
theorem dX9_table_88 : decode cX9_table 88 = .ok (.invokevirtual 92, 3) := by decide +kernel
theorem dX9_table_91 : decode cX9_table 91 = .ok (.iastore, 1) := by decide +kernel
theorem dX9_table_92 : decode cX9_table 92 = .ok (.iinc 3 1, 3) := by decide +kernel
theorem dX9_table_95 : decode cX9_table 95 = .ok (.goto (-38), 3) := by decide +kernel
theorem dX9_table_98 : decode cX9_table 98 = .ok (.aload_n 0, 1) := by decide +kernel
theorem dX9_table_99 : decode cX9_table 99 = .ok (.getfield 10, 3) := by decide +kernel
theorem dX9_table_102 : decode cX9_table 102 = .ok (.dup, 1) := by decide +kernel
theorem dX9_table_103 : decode cX9_table 103 = .ok (.getfield 86, 3) := by decide +kernel
theorem dX9_table_106 : decode cX9_table 106 = .ok (.iconst 1, 1) := by decide +kernel
theorem dX9_table_107 : decode cX9_table 107 = .ok (.iadd, 1) := by decide +kernel
theorem dX9_table_108 : decode cX9_table 108 = .ok (.putfield 86, 3) := by decide +kernel
theorem dX9_table_111 : decode cX9_table 111 = .ok (.aload_n 0, 1) := by decide +kernel
theorem dX9_table_112 : decode cX9_table 112 = .ok (.getfield 10, 3) := by decide +kernel
theorem dX9_table_115 : decode cX9_table 115 = .ok (.getfield 86, 3) := by decide +kernel
theorem dX9_table_118 : decode cX9_table 118 = .ok (.iconst 1, 1) := by decide +kernel
theorem dX9_table_119 : decode cX9_table 119 = .ok (.isub, 1) := by decide +kernel
theorem dX9_table_120 : decode cX9_table 120 = .ok (.ireturn, 1) := by decide +kernel
theorem dX9_part_0 : decode cX9_part 0 = .ok (.iload_n 1, 1) := by decide +kernel
theorem dX9_part_1 : decode cX9_part 1 = .ok (.iconst 1, 1) := by decide +kernel
theorem dX9_part_2 : decode cX9_part 2 = .ok (.iconst 5, 1) := by decide +kernel
theorem dX9_part_3 : decode cX9_part 3 = .ok (.invokestatic 74, 3) := by decide +kernel
theorem dX9_part_6 : decode cX9_part 6 = .ok (.ifCond .eq 20, 3) := by decide +kernel
theorem dX9_part_9 : decode cX9_part 9 = .ok (.iload_n 2, 1) := by decide +kernel
theorem dX9_part_10 : decode cX9_part 10 = .ok (.invokestatic 95, 3) := by decide +kernel
theorem dX9_part_13 : decode cX9_part 13 = .ok (.ifCond .eq 13, 3) := by decide +kernel
theorem dX9_part_16 : decode cX9_part 16 = .ok (.iload_n 3, 1) := by decide +kernel
theorem dX9_part_17 : decode cX9_part 17 = .ok (.iconst 1, 1) := by decide +kernel
theorem dX9_part_18 : decode cX9_part 18 = .ok (.bipush 9, 2) := by decide +kernel
theorem dX9_part_20 : decode cX9_part 20 = .ok (.invokestatic 74, 3) := by decide +kernel
theorem dX9_part_23 : decode cX9_part 23 = .ok (.ifCond .ne 5, 3) := by decide +kernel
theorem dX9_part_26 : decode cX9_part 26 = .ok (.iconst (-1), 1) := by decide +kernel
theorem dX9_part_27 : decode cX9_part 27 = .ok (.ireturn, 1) := by decide +kernel
theorem dX9_part_28 : decode cX9_part 28 = .ok (.iload_n 1, 1) := by decide +kernel
theorem dX9_part_29 : decode cX9_part 29 = .ok (.invokestatic 98, 3) := by decide +kernel
theorem dX9_part_32 : decode cX9_part 32 = .ok (.ifCond .eq 17, 3) := by decide +kernel
theorem dX9_part_35 : decode cX9_part 35 = .ok (.aload_n 0, 1) := by decide +kernel
theorem dX9_part_36 : decode cX9_part 36 = .ok (.getfield 10, 3) := by decide +kernel
theorem dX9_part_39 : decode cX9_part 39 = .ok (.iload 4, 2) := by decide +kernel
theorem dX9_part_41 : decode cX9_part 41 = .ok (.invokevirtual 101, 3) := by decide +kernel
theorem dX9_part_44 : decode cX9_part 44 = .ok (.ifCond .ne 5, 3) := by decide +kernel
theorem dX9_part_47 : decode cX9_part 47 = .ok (.iconst (-1), 1) := by decide +kernel
theorem dX9_part_48 : decode cX9_part 48 = .ok (.ireturn, 1) := by decide +kernel
theorem dX9_part_49 : decode cX9_part 49 = .ok (.iload_n 1, 1) := by decide +kernel
theorem dX9_part_50 : decode cX9_part 50 = .ok (.invokestatic 104, 3) := by decide +kernel
theorem dX9_part_53 : decode cX9_part 53 = .ok (.ifCond .eq 18, 3) := by decide +kernel
theorem dX9_part_56 : decode cX9_part 56 = .ok (.aload_n 0, 1) := by decide +kernel
theorem dX9_part_57 : decode cX9_part 57 = .ok (.getfield 10, 3) := by decide +kernel
theorem dX9_part_60 : decode cX9_part 60 = .ok (.iload_n 1, 1) := by decide +kernel
theorem dX9_part_61 : decode cX9_part 61 = .ok (.iload 5, 2) := by decide +kernel
theorem dX9_part_63 : decode cX9_part 63 = .ok (.invokevirtual 107, 3) := by decide +kernel
theorem dX9_part_66 : decode cX9_part 66 = .ok (.ifCond .ne 5, 3) := by decide +kernel
theorem dX9_part_69 : decode cX9_part 69 = .ok (.iconst (-1), 1) := by decide +kernel
theorem dX9_part_70 : decode cX9_part 70 = .ok (.ireturn, 1) := by decide +kernel
theorem dX9_part_71 : decode cX9_part 71 = .ok (.aload_n 0, 1) := by decide +kernel
theorem dX9_part_72 : decode cX9_part 72 = .ok (.getfield 10, 3) := by decide +kernel
theorem dX9_part_75 : decode cX9_part 75 = .ok (.getfield 111, 3) := by decide +kernel
theorem dX9_part_78 : decode cX9_part 78 = .ok (.bipush 10, 2) := by decide +kernel
theorem dX9_part_80 : decode cX9_part 80 = .ok (.if_icmp .lt 6, 3) := by decide +kernel
theorem dX9_part_83 : decode cX9_part 83 = .ok (.bipush (-2), 2) := by decide +kernel
theorem dX9_part_85 : decode cX9_part 85 = .ok (.ireturn, 1) := by decide +kernel
theorem dX9_part_86 : decode cX9_part 86 = .ok (.aload_n 0, 1) := by decide +kernel
theorem dX9_part_87 : decode cX9_part 87 = .ok (.getfield 10, 3) := by decide +kernel
theorem dX9_part_90 : decode cX9_part 90 = .ok (.getfield 114, 3) := by decide +kernel
theorem dX9_part_93 : decode cX9_part 93 = .ok (.aload_n 0, 1) := by decide +kernel
theorem dX9_part_94 : decode cX9_part 94 = .ok (.getfield 10, 3) := by decide +kernel
theorem dX9_part_97 : decode cX9_part 97 = .ok (.getfield 111, 3) := by decide +kernel
theorem dX9_part_100 : decode cX9_part 100 = .ok (.aaload, 1) := by decide +kernel
theorem dX9_part_101 : decode cX9_part 101 = .ok (.iload_n 1, 1) := by decide +kernel
theorem dX9_part_102 : decode cX9_part 102 = .ok (.iload_n 2, 1) := by decide +kernel
theorem dX9_part_103 : decode cX9_part 103 = .ok (.iload_n 3, 1) := by decide +kernel
theorem dX9_part_104 : decode cX9_part 104 = .ok (.iload 4, 2) := by decide +kernel
theorem dX9_part_106 : decode cX9_part 106 = .ok (.iload 5, 2) := by decide +kernel
theorem dX9_part_108 : decode cX9_part 108 = .ok (.invokevirtual 118, 3) := by decide +kernel
theorem dX9_part_111 : decode cX9_part 111 = .ok (.aload_n 0, 1) := by decide +kernel
theorem dX9_part_112 : decode cX9_part 112 = .ok (.getfield 10, 3) := by decide +kernel
theorem dX9_part_115 : decode cX9_part 115 = .ok (.dup, 1) := by decide +kernel
theorem dX9_part_116 : decode cX9_part 116 = .ok (.getfield 111, 3) := by decide +kernel
theorem dX9_part_119 : decode cX9_part 119 = .ok (.iconst 1, 1) := by decide +kernel
theorem dX9_part_120 : decode cX9_part 120 = .ok (.iadd, 1) := by decide +kernel
theorem dX9_part_121 : decode cX9_part 121 = .ok (.putfield 111, 3) := by decide +kernel
theorem dX9_part_124 : decode cX9_part 124 = .ok (.aload_n 0, 1) := by decide +kernel
theorem dX9_part_125 : decode cX9_part 125 = .ok (.getfield 10, 3) := by decide +kernel
theorem dX9_part_128 : decode cX9_part 128 = .ok (.getfield 111, 3) := by decide +kernel
theorem dX9_part_131 : decode cX9_part 131 = .ok (.iconst 1, 1) := by decide +kernel
theorem dX9_part_132 : decode cX9_part 132 = .ok (.isub, 1) := by decide +kernel
theorem dX9_part_133 : decode cX9_part 133 = .ok (.ireturn, 1) := by decide +kernel
theorem dX9_partOf_0 : decode cX9_partOf 0 = .ok (.aload_n 0, 1) := by decide +kernel
theorem dX9_partOf_1 : decode cX9_partOf 1 = .ok (.getfield 10, 3) := by decide +kernel
theorem dX9_partOf_4 : decode cX9_partOf 4 = .ok (.iload_n 1, 1) := by decide +kernel
theorem dX9_partOf_5 : decode cX9_partOf 5 = .ok (.invokevirtual 124, 3) := by decide +kernel
theorem dX9_partOf_8 : decode cX9_partOf 8 = .ok (.ifCond .ne 5, 3) := by decide +kernel
theorem dX9_partOf_11 : decode cX9_partOf 11 = .ok (.iconst (-1), 1) := by decide +kernel
theorem dX9_partOf_12 : decode cX9_partOf 12 = .ok (.ireturn, 1) := by decide +kernel
theorem dX9_partOf_13 : decode cX9_partOf 13 = .ok (.aload_n 0, 1) := by decide +kernel
theorem dX9_partOf_14 : decode cX9_partOf 14 = .ok (.getfield 10, 3) := by decide +kernel
theorem dX9_partOf_17 : decode cX9_partOf 17 = .ok (.getfield 114, 3) := by decide +kernel
theorem dX9_partOf_20 : decode cX9_partOf 20 = .ok (.iload_n 1, 1) := by decide +kernel
theorem dX9_partOf_21 : decode cX9_partOf 21 = .ok (.aaload, 1) := by decide +kernel
theorem dX9_partOf_22 : decode cX9_partOf 22 = .ok (.iload_n 2, 1) := by decide +kernel
theorem dX9_partOf_23 : decode cX9_partOf 23 = .ok (.invokevirtual 127, 3) := by decide +kernel
theorem dX9_partOf_26 : decode cX9_partOf 26 = .ok (.ireturn, 1) := by decide +kernel
theorem dX9_size_0 : decode cX9_size 0 = .ok (.aload_n 0, 1) := by decide +kernel
theorem dX9_size_1 : decode cX9_size 1 = .ok (.getfield 10, 3) := by decide +kernel
theorem dX9_size_4 : decode cX9_size 4 = .ok (.iload_n 1, 1) := by decide +kernel
theorem dX9_size_5 : decode cX9_size 5 = .ok (.invokevirtual 124, 3) := by decide +kernel
theorem dX9_size_8 : decode cX9_size 8 = .ok (.ifCond .eq 13, 3) := by decide +kernel
theorem dX9_size_11 : decode cX9_size 11 = .ok (.iload_n 2, 1) := by decide +kernel
theorem dX9_size_12 : decode cX9_size 12 = .ok (.iconst 1, 1) := by decide +kernel
theorem dX9_size_13 : decode cX9_size 13 = .ok (.bipush 9, 2) := by decide +kernel
theorem dX9_size_15 : decode cX9_size 15 = .ok (.invokestatic 74, 3) := by decide +kernel
theorem dX9_size_18 : decode cX9_size 18 = .ok (.ifCond .ne 5, 3) := by decide +kernel
theorem dX9_size_21 : decode cX9_size 21 = .ok (.iconst (-1), 1) := by decide +kernel
theorem dX9_size_22 : decode cX9_size 22 = .ok (.ireturn, 1) := by decide +kernel
theorem dX9_size_23 : decode cX9_size 23 = .ok (.aload_n 0, 1) := by decide +kernel
theorem dX9_size_24 : decode cX9_size 24 = .ok (.getfield 10, 3) := by decide +kernel
theorem dX9_size_27 : decode cX9_size 27 = .ok (.getfield 114, 3) := by decide +kernel
theorem dX9_size_30 : decode cX9_size 30 = .ok (.iload_n 1, 1) := by decide +kernel
theorem dX9_size_31 : decode cX9_size 31 = .ok (.aaload, 1) := by decide +kernel
theorem dX9_size_32 : decode cX9_size 32 = .ok (.getfield 131, 3) := by decide +kernel
theorem dX9_size_35 : decode cX9_size 35 = .ok (.istore_n 3, 1) := by decide +kernel
theorem dX9_size_36 : decode cX9_size 36 = .ok (.aload_n 0, 1) := by decide +kernel
theorem dX9_size_37 : decode cX9_size 37 = .ok (.getfield 10, 3) := by decide +kernel
theorem dX9_size_40 : decode cX9_size 40 = .ok (.getfield 114, 3) := by decide +kernel
theorem dX9_size_43 : decode cX9_size 43 = .ok (.iload_n 1, 1) := by decide +kernel
theorem dX9_size_44 : decode cX9_size 44 = .ok (.aaload, 1) := by decide +kernel
theorem dX9_size_45 : decode cX9_size 45 = .ok (.iload_n 2, 1) := by decide +kernel
theorem dX9_size_46 : decode cX9_size 46 = .ok (.putfield 131, 3) := by decide +kernel
theorem dX9_size_49 : decode cX9_size 49 = .ok (.iload_n 3, 1) := by decide +kernel
theorem dX9_size_50 : decode cX9_size 50 = .ok (.ireturn, 1) := by decide +kernel
theorem dX9_breaks_0 : decode cX9_breaks 0 = .ok (.aload_n 0, 1) := by decide +kernel
theorem dX9_breaks_1 : decode cX9_breaks 1 = .ok (.getfield 10, 3) := by decide +kernel
theorem dX9_breaks_4 : decode cX9_breaks 4 = .ok (.iload_n 1, 1) := by decide +kernel
theorem dX9_breaks_5 : decode cX9_breaks 5 = .ok (.invokevirtual 124, 3) := by decide +kernel
theorem dX9_breaks_8 : decode cX9_breaks 8 = .ok (.ifCond .eq 12, 3) := by decide +kernel
theorem dX9_breaks_11 : decode cX9_breaks 11 = .ok (.iload_n 2, 1) := by decide +kernel
theorem dX9_breaks_12 : decode cX9_breaks 12 = .ok (.iconst 0, 1) := by decide +kernel
theorem dX9_breaks_13 : decode cX9_breaks 13 = .ok (.iconst 2, 1) := by decide +kernel
theorem dX9_breaks_14 : decode cX9_breaks 14 = .ok (.invokestatic 74, 3) := by decide +kernel
theorem dX9_breaks_17 : decode cX9_breaks 17 = .ok (.ifCond .ne 5, 3) := by decide +kernel
theorem dX9_breaks_20 : decode cX9_breaks 20 = .ok (.iconst (-1), 1) := by decide +kernel
theorem dX9_breaks_21 : decode cX9_breaks 21 = .ok (.ireturn, 1) := by decide +kernel
theorem dX9_breaks_22 : decode cX9_breaks 22 = .ok (.aload_n 0, 1) := by decide +kernel
theorem dX9_breaks_23 : decode cX9_breaks 23 = .ok (.getfield 10, 3) := by decide +kernel
theorem dX9_breaks_26 : decode cX9_breaks 26 = .ok (.getfield 114, 3) := by decide +kernel
theorem dX9_breaks_29 : decode cX9_breaks 29 = .ok (.iload_n 1, 1) := by decide +kernel
theorem dX9_breaks_30 : decode cX9_breaks 30 = .ok (.aaload, 1) := by decide +kernel
theorem dX9_breaks_31 : decode cX9_breaks 31 = .ok (.getfield 134, 3) := by decide +kernel
theorem dX9_breaks_34 : decode cX9_breaks 34 = .ok (.istore_n 3, 1) := by decide +kernel
theorem dX9_breaks_35 : decode cX9_breaks 35 = .ok (.aload_n 0, 1) := by decide +kernel
theorem dX9_breaks_36 : decode cX9_breaks 36 = .ok (.getfield 10, 3) := by decide +kernel
theorem dX9_breaks_39 : decode cX9_breaks 39 = .ok (.getfield 114, 3) := by decide +kernel
theorem dX9_breaks_42 : decode cX9_breaks 42 = .ok (.iload_n 1, 1) := by decide +kernel
theorem dX9_breaks_43 : decode cX9_breaks 43 = .ok (.aaload, 1) := by decide +kernel
theorem dX9_breaks_44 : decode cX9_breaks 44 = .ok (.iload_n 2, 1) := by decide +kernel
theorem dX9_breaks_45 : decode cX9_breaks 45 = .ok (.putfield 134, 3) := by decide +kernel
theorem dX9_breaks_48 : decode cX9_breaks 48 = .ok (.iload_n 3, 1) := by decide +kernel
theorem dX9_breaks_49 : decode cX9_breaks 49 = .ok (.ireturn, 1) := by decide +kernel
theorem dX9_drop_0 : decode cX9_drop 0 = .ok (.aload_n 0, 1) := by decide +kernel
theorem dX9_drop_1 : decode cX9_drop 1 = .ok (.getfield 10, 3) := by decide +kernel
theorem dX9_drop_4 : decode cX9_drop 4 = .ok (.getfield 111, 3) := by decide +kernel
theorem dX9_drop_7 : decode cX9_drop 7 = .ok (.ifCond .ne 6, 3) := by decide +kernel
theorem dX9_drop_10 : decode cX9_drop 10 = .ok (.bipush (-3), 2) := by decide +kernel
theorem dX9_drop_12 : decode cX9_drop 12 = .ok (.ireturn, 1) := by decide +kernel
theorem dX9_drop_13 : decode cX9_drop 13 = .ok (.aload_n 0, 1) := by decide +kernel
theorem dX9_drop_14 : decode cX9_drop 14 = .ok (.getfield 10, 3) := by decide +kernel
theorem dX9_drop_17 : decode cX9_drop 17 = .ok (.dup, 1) := by decide +kernel
theorem dX9_drop_18 : decode cX9_drop 18 = .ok (.getfield 111, 3) := by decide +kernel
theorem dX9_drop_21 : decode cX9_drop 21 = .ok (.iconst 1, 1) := by decide +kernel
theorem dX9_drop_22 : decode cX9_drop 22 = .ok (.isub, 1) := by decide +kernel
theorem dX9_drop_23 : decode cX9_drop 23 = .ok (.putfield 111, 3) := by decide +kernel
theorem dX9_drop_26 : decode cX9_drop 26 = .ok (.aload_n 0, 1) := by decide +kernel
theorem dX9_drop_27 : decode cX9_drop 27 = .ok (.getfield 10, 3) := by decide +kernel
theorem dX9_drop_30 : decode cX9_drop 30 = .ok (.aload_n 0, 1) := by decide +kernel
theorem dX9_drop_31 : decode cX9_drop 31 = .ok (.getfield 10, 3) := by decide +kernel
theorem dX9_drop_34 : decode cX9_drop 34 = .ok (.getfield 111, 3) := by decide +kernel
theorem dX9_drop_37 : decode cX9_drop 37 = .ok (.invokevirtual 137, 3) := by decide +kernel
theorem dX9_drop_40 : decode cX9_drop 40 = .ok (.aload_n 0, 1) := by decide +kernel
theorem dX9_drop_41 : decode cX9_drop 41 = .ok (.getfield 10, 3) := by decide +kernel
theorem dX9_drop_44 : decode cX9_drop 44 = .ok (.getfield 111, 3) := by decide +kernel
theorem dX9_drop_47 : decode cX9_drop 47 = .ok (.ireturn, 1) := by decide +kernel
theorem dX9_feedAt_0 : decode cX9_feedAt 0 = .ok (.iload_n 1, 1) := by decide +kernel
theorem dX9_feedAt_1 : decode cX9_feedAt 1 = .ok (.iconst 0, 1) := by decide +kernel
theorem dX9_feedAt_2 : decode cX9_feedAt 2 = .ok (.bipush 20, 2) := by decide +kernel
theorem dX9_feedAt_4 : decode cX9_feedAt 4 = .ok (.invokestatic 74, 3) := by decide +kernel
theorem dX9_feedAt_7 : decode cX9_feedAt 7 = .ok (.ifCond .ne 5, 3) := by decide +kernel
theorem dX9_feedAt_10 : decode cX9_feedAt 10 = .ok (.iconst (-1), 1) := by decide +kernel
theorem dX9_feedAt_11 : decode cX9_feedAt 11 = .ok (.ireturn, 1) := by decide +kernel
theorem dX9_feedAt_12 : decode cX9_feedAt 12 = .ok (.aload_n 0, 1) := by decide +kernel
theorem dX9_feedAt_13 : decode cX9_feedAt 13 = .ok (.getfield 10, 3) := by decide +kernel
theorem dX9_feedAt_16 : decode cX9_feedAt 16 = .ok (.getfield 141, 3) := by decide +kernel
theorem dX9_feedAt_19 : decode cX9_feedAt 19 = .ok (.istore_n 2, 1) := by decide +kernel
theorem dX9_feedAt_20 : decode cX9_feedAt 20 = .ok (.aload_n 0, 1) := by decide +kernel
theorem dX9_feedAt_21 : decode cX9_feedAt 21 = .ok (.getfield 10, 3) := by decide +kernel
theorem dX9_feedAt_24 : decode cX9_feedAt 24 = .ok (.iload_n 1, 1) := by decide +kernel
theorem dX9_feedAt_25 : decode cX9_feedAt 25 = .ok (.putfield 141, 3) := by decide +kernel
theorem dX9_feedAt_28 : decode cX9_feedAt 28 = .ok (.iload_n 2, 1) := by decide +kernel
theorem dX9_feedAt_29 : decode cX9_feedAt 29 = .ok (.ireturn, 1) := by decide +kernel
theorem dX9_start_0 : decode cX9_start 0 = .ok (.iload_n 1, 1) := by decide +kernel
theorem dX9_start_1 : decode cX9_start 1 = .ok (.invokestatic 144, 3) := by decide +kernel
theorem dX9_start_4 : decode cX9_start 4 = .ok (.ifCond .ne 5, 3) := by decide +kernel
theorem dX9_start_7 : decode cX9_start 7 = .ok (.iconst (-1), 1) := by decide +kernel
theorem dX9_start_8 : decode cX9_start 8 = .ok (.ireturn, 1) := by decide +kernel
theorem dX9_start_9 : decode cX9_start 9 = .ok (.aload_n 0, 1) := by decide +kernel
theorem dX9_start_10 : decode cX9_start 10 = .ok (.getfield 10, 3) := by decide +kernel
theorem dX9_start_13 : decode cX9_start 13 = .ok (.getfield 147, 3) := by decide +kernel
theorem dX9_start_16 : decode cX9_start 16 = .ok (.istore_n 2, 1) := by decide +kernel
theorem dX9_start_17 : decode cX9_start 17 = .ok (.aload_n 0, 1) := by decide +kernel
theorem dX9_start_18 : decode cX9_start 18 = .ok (.getfield 10, 3) := by decide +kernel
theorem dX9_start_21 : decode cX9_start 21 = .ok (.iload_n 1, 1) := by decide +kernel
theorem dX9_start_22 : decode cX9_start 22 = .ok (.putfield 147, 3) := by decide +kernel
theorem dX9_start_25 : decode cX9_start 25 = .ok (.iload_n 2, 1) := by decide +kernel
theorem dX9_start_26 : decode cX9_start 26 = .ok (.ireturn, 1) := by decide +kernel
theorem dX9_flow_0 : decode cX9_flow 0 = .ok (.aload_n 0, 1) := by decide +kernel
theorem dX9_flow_1 : decode cX9_flow 1 = .ok (.getfield 10, 3) := by decide +kernel
theorem dX9_flow_4 : decode cX9_flow 4 = .ok (.iload_n 1, 1) := by decide +kernel
theorem dX9_flow_5 : decode cX9_flow 5 = .ok (.invokevirtual 124, 3) := by decide +kernel
theorem dX9_flow_8 : decode cX9_flow 8 = .ok (.ifCond .eq 17, 3) := by decide +kernel
theorem dX9_flow_11 : decode cX9_flow 11 = .ok (.iload_n 2, 1) := by decide +kernel
theorem dX9_flow_12 : decode cX9_flow 12 = .ok (.invokestatic 144, 3) := by decide +kernel
theorem dX9_flow_15 : decode cX9_flow 15 = .ok (.ifCond .eq 10, 3) := by decide +kernel
theorem dX9_flow_18 : decode cX9_flow 18 = .ok (.iload_n 3, 1) := by decide +kernel
theorem dX9_flow_19 : decode cX9_flow 19 = .ok (.invokestatic 150, 3) := by decide +kernel
theorem dX9_flow_22 : decode cX9_flow 22 = .ok (.ifCond .ne 6, 3) := by decide +kernel
theorem dX9_flow_25 : decode cX9_flow 25 = .ok (.ldc 153, 2) := by decide +kernel
theorem dX9_flow_27 : decode cX9_flow 27 = .ok (.ireturn, 1) := by decide +kernel
theorem dX9_flow_28 : decode cX9_flow 28 = .ok (.aload_n 0, 1) := by decide +kernel
theorem dX9_flow_29 : decode cX9_flow 29 = .ok (.getfield 30, 3) := by decide +kernel
theorem dX9_flow_32 : decode cX9_flow 32 = .ok (.aload_n 0, 1) := by decide +kernel
theorem dX9_flow_33 : decode cX9_flow 33 = .ok (.getfield 10, 3) := by decide +kernel
theorem dX9_flow_36 : decode cX9_flow 36 = .ok (.iload_n 3, 1) := by decide +kernel
theorem dX9_flow_37 : decode cX9_flow 37 = .ok (.aload_n 0, 1) := by decide +kernel
theorem dX9_flow_38 : decode cX9_flow 38 = .ok (.getfield 10, 3) := by decide +kernel
theorem dX9_flow_41 : decode cX9_flow 41 = .ok (.getfield 141, 3) := by decide +kernel
theorem dX9_flow_44 : decode cX9_flow 44 = .ok (.invokevirtual 154, 3) := by decide +kernel
theorem dX9_flow_47 : decode cX9_flow 47 = .ok (.aload_n 0, 1) := by decide +kernel
theorem dX9_flow_48 : decode cX9_flow 48 = .ok (.getfield 30, 3) := by decide +kernel
theorem dX9_flow_51 : decode cX9_flow 51 = .ok (.iload_n 2, 1) := by decide +kernel
theorem dX9_flow_52 : decode cX9_flow 52 = .ok (.invokevirtual 160, 3) := by decide +kernel
theorem dX9_flow_55 : decode cX9_flow 55 = .ok (.aload_n 0, 1) := by decide +kernel
theorem dX9_flow_56 : decode cX9_flow 56 = .ok (.getfield 30, 3) := by decide +kernel
theorem dX9_flow_59 : decode cX9_flow 59 = .ok (.iload_n 1, 1) := by decide +kernel
theorem dX9_flow_60 : decode cX9_flow 60 = .ok (.invokevirtual 163, 3) := by decide +kernel
theorem dX9_flow_63 : decode cX9_flow 63 = .ok (.ireturn, 1) := by decide +kernel
theorem dX9_tick_0 : decode cX9_tick 0 = .ok (.iload_n 1, 1) := by decide +kernel
theorem dX9_tick_1 : decode cX9_tick 1 = .ok (.invokestatic 144, 3) := by decide +kernel
theorem dX9_tick_4 : decode cX9_tick 4 = .ok (.ifCond .eq 10, 3) := by decide +kernel
theorem dX9_tick_7 : decode cX9_tick 7 = .ok (.iload_n 2, 1) := by decide +kernel
theorem dX9_tick_8 : decode cX9_tick 8 = .ok (.invokestatic 150, 3) := by decide +kernel
theorem dX9_tick_11 : decode cX9_tick 11 = .ok (.ifCond .ne 5, 3) := by decide +kernel
theorem dX9_tick_14 : decode cX9_tick 14 = .ok (.iconst (-1), 1) := by decide +kernel
theorem dX9_tick_15 : decode cX9_tick 15 = .ok (.ireturn, 1) := by decide +kernel
theorem dX9_tick_16 : decode cX9_tick 16 = .ok (.aload_n 0, 1) := by decide +kernel
theorem dX9_tick_17 : decode cX9_tick 17 = .ok (.getfield 30, 3) := by decide +kernel
theorem dX9_tick_20 : decode cX9_tick 20 = .ok (.aload_n 0, 1) := by decide +kernel
theorem dX9_tick_21 : decode cX9_tick 21 = .ok (.getfield 10, 3) := by decide +kernel
theorem dX9_tick_24 : decode cX9_tick 24 = .ok (.iload_n 2, 1) := by decide +kernel
theorem dX9_tick_25 : decode cX9_tick 25 = .ok (.aload_n 0, 1) := by decide +kernel
theorem dX9_tick_26 : decode cX9_tick 26 = .ok (.getfield 10, 3) := by decide +kernel
theorem dX9_tick_29 : decode cX9_tick 29 = .ok (.getfield 141, 3) := by decide +kernel
theorem dX9_tick_32 : decode cX9_tick 32 = .ok (.invokevirtual 154, 3) := by decide +kernel
theorem dX9_tick_35 : decode cX9_tick 35 = .ok (.aload_n 0, 1) := by decide +kernel
theorem dX9_tick_36 : decode cX9_tick 36 = .ok (.getfield 30, 3) := by decide +kernel
theorem dX9_tick_39 : decode cX9_tick 39 = .ok (.iload_n 1, 1) := by decide +kernel
theorem dX9_tick_40 : decode cX9_tick 40 = .ok (.invokevirtual 160, 3) := by decide +kernel
theorem dX9_tick_43 : decode cX9_tick 43 = .ok (.aload_n 0, 1) := by decide +kernel
theorem dX9_tick_44 : decode cX9_tick 44 = .ok (.getfield 30, 3) := by decide +kernel
theorem dX9_tick_47 : decode cX9_tick 47 = .ok (.invokevirtual 166, 3) := by decide +kernel
theorem dX9_tick_50 : decode cX9_tick 50 = .ok (.aload_n 0, 1) := by decide +kernel
theorem dX9_tick_51 : decode cX9_tick 51 = .ok (.getfield 30, 3) := by decide +kernel
theorem dX9_tick_54 : decode cX9_tick 54 = .ok (.invokevirtual 169, 3) := by decide +kernel
theorem dX9_tick_57 : decode cX9_tick 57 = .ok (.ireturn, 1) := by decide +kernel
theorem dX9_goes_0 : decode cX9_goes 0 = .ok (.iload_n 1, 1) := by decide +kernel
theorem dX9_goes_1 : decode cX9_goes 1 = .ok (.invokestatic 150, 3) := by decide +kernel
theorem dX9_goes_4 : decode cX9_goes 4 = .ok (.ifCond .eq 12, 3) := by decide +kernel
theorem dX9_goes_7 : decode cX9_goes 7 = .ok (.iload_n 2, 1) := by decide +kernel
theorem dX9_goes_8 : decode cX9_goes 8 = .ok (.iconst 0, 1) := by decide +kernel
theorem dX9_goes_9 : decode cX9_goes 9 = .ok (.iconst 2, 1) := by decide +kernel
theorem dX9_goes_10 : decode cX9_goes 10 = .ok (.invokestatic 74, 3) := by decide +kernel
theorem dX9_goes_13 : decode cX9_goes 13 = .ok (.ifCond .ne 5, 3) := by decide +kernel
theorem dX9_goes_16 : decode cX9_goes 16 = .ok (.iconst (-1), 1) := by decide +kernel
theorem dX9_goes_17 : decode cX9_goes 17 = .ok (.ireturn, 1) := by decide +kernel
theorem dX9_goes_18 : decode cX9_goes 18 = .ok (.aload_n 0, 1) := by decide +kernel
theorem dX9_goes_19 : decode cX9_goes 19 = .ok (.getfield 30, 3) := by decide +kernel
theorem dX9_goes_22 : decode cX9_goes 22 = .ok (.aload_n 0, 1) := by decide +kernel
theorem dX9_goes_23 : decode cX9_goes 23 = .ok (.getfield 10, 3) := by decide +kernel
theorem dX9_goes_26 : decode cX9_goes 26 = .ok (.iload_n 1, 1) := by decide +kernel
theorem dX9_goes_27 : decode cX9_goes 27 = .ok (.aload_n 0, 1) := by decide +kernel
theorem dX9_goes_28 : decode cX9_goes 28 = .ok (.getfield 10, 3) := by decide +kernel
theorem dX9_goes_31 : decode cX9_goes 31 = .ok (.getfield 141, 3) := by decide +kernel
theorem dX9_goes_34 : decode cX9_goes 34 = .ok (.invokevirtual 154, 3) := by decide +kernel
theorem dX9_goes_37 : decode cX9_goes 37 = .ok (.aload_n 0, 1) := by decide +kernel
theorem dX9_goes_38 : decode cX9_goes 38 = .ok (.getfield 30, 3) := by decide +kernel
theorem dX9_goes_41 : decode cX9_goes 41 = .ok (.aload_n 0, 1) := by decide +kernel
theorem dX9_goes_42 : decode cX9_goes 42 = .ok (.getfield 10, 3) := by decide +kernel
theorem dX9_goes_45 : decode cX9_goes 45 = .ok (.getfield 147, 3) := by decide +kernel
theorem dX9_goes_48 : decode cX9_goes 48 = .ok (.invokevirtual 173, 3) := by decide +kernel
theorem dX9_goes_51 : decode cX9_goes 51 = .ok (.iload_n 2, 1) := by decide +kernel
theorem dX9_goes_52 : decode cX9_goes 52 = .ok (.ifCond .ne 13, 3) := by decide +kernel
theorem dX9_goes_55 : decode cX9_goes 55 = .ok (.aload_n 0, 1) := by decide +kernel
theorem dX9_goes_56 : decode cX9_goes 56 = .ok (.getfield 30, 3) := by decide +kernel
theorem dX9_goes_59 : decode cX9_goes 59 = .ok (.getfield 176, 3) := by decide +kernel
theorem dX9_goes_62 : decode cX9_goes 62 = .ok (.goto 25, 3) := by decide +kernel
theorem dX9_goes_65 : decode cX9_goes 65 = .ok (.iload_n 2, 1) := by decide +kernel
theorem dX9_goes_66 : decode cX9_goes 66 = .ok (.iconst 1, 1) := by decide +kernel
theorem dX9_goes_67 : decode cX9_goes 67 = .ok (.if_icmp .ne 13, 3) := by decide +kernel
theorem dX9_goes_70 : decode cX9_goes 70 = .ok (.aload_n 0, 1) := by decide +kernel
theorem dX9_goes_71 : decode cX9_goes 71 = .ok (.getfield 30, 3) := by decide +kernel
theorem dX9_goes_74 : decode cX9_goes 74 = .ok (.getfield 179, 3) := by decide +kernel
theorem dX9_goes_77 : decode cX9_goes 77 = .ok (.goto 10, 3) := by decide +kernel
theorem dX9_goes_80 : decode cX9_goes 80 = .ok (.aload_n 0, 1) := by decide +kernel
theorem dX9_goes_81 : decode cX9_goes 81 = .ok (.getfield 30, 3) := by decide +kernel
theorem dX9_goes_84 : decode cX9_goes 84 = .ok (.getfield 182, 3) := by decide +kernel
theorem dX9_goes_87 : decode cX9_goes 87 = .ok (.ireturn, 1) := by decide +kernel
theorem dX9_rests_0 : decode cX9_rests 0 = .ok (.iload_n 1, 1) := by decide +kernel
theorem dX9_rests_1 : decode cX9_rests 1 = .ok (.invokestatic 150, 3) := by decide +kernel
theorem dX9_rests_4 : decode cX9_rests 4 = .ok (.ifCond .ne 5, 3) := by decide +kernel
theorem dX9_rests_7 : decode cX9_rests 7 = .ok (.iconst (-1), 1) := by decide +kernel
theorem dX9_rests_8 : decode cX9_rests 8 = .ok (.ireturn, 1) := by decide +kernel
theorem dX9_rests_9 : decode cX9_rests 9 = .ok (.aload_n 0, 1) := by decide +kernel
theorem dX9_rests_10 : decode cX9_rests 10 = .ok (.getfield 30, 3) := by decide +kernel
theorem dX9_rests_13 : decode cX9_rests 13 = .ok (.aload_n 0, 1) := by decide +kernel
theorem dX9_rests_14 : decode cX9_rests 14 = .ok (.getfield 10, 3) := by decide +kernel
theorem dX9_rests_17 : decode cX9_rests 17 = .ok (.iload_n 1, 1) := by decide +kernel
theorem dX9_rests_18 : decode cX9_rests 18 = .ok (.aload_n 0, 1) := by decide +kernel
theorem dX9_rests_19 : decode cX9_rests 19 = .ok (.getfield 10, 3) := by decide +kernel
theorem dX9_rests_22 : decode cX9_rests 22 = .ok (.getfield 141, 3) := by decide +kernel
theorem dX9_rests_25 : decode cX9_rests 25 = .ok (.invokevirtual 154, 3) := by decide +kernel
theorem dX9_rests_28 : decode cX9_rests 28 = .ok (.aload_n 0, 1) := by decide +kernel
theorem dX9_rests_29 : decode cX9_rests 29 = .ok (.getfield 34, 3) := by decide +kernel
theorem dX9_rests_32 : decode cX9_rests 32 = .ok (.aload_n 0, 1) := by decide +kernel
theorem dX9_rests_33 : decode cX9_rests 33 = .ok (.getfield 30, 3) := by decide +kernel
theorem dX9_rests_36 : decode cX9_rests 36 = .ok (.iconst (-1), 1) := by decide +kernel
theorem dX9_rests_37 : decode cX9_rests 37 = .ok (.invokevirtual 185, 3) := by decide +kernel
theorem dX9_rests_40 : decode cX9_rests 40 = .ok (.aload_n 0, 1) := by decide +kernel
theorem dX9_rests_41 : decode cX9_rests 41 = .ok (.getfield 34, 3) := by decide +kernel
theorem dX9_rests_44 : decode cX9_rests 44 = .ok (.getfield 189, 3) := by decide +kernel
theorem dX9_rests_47 : decode cX9_rests 47 = .ok (.ireturn, 1) := by decide +kernel
theorem dX9_restAt_0 : decode cX9_restAt 0 = .ok (.iload_n 1, 1) := by decide +kernel
theorem dX9_restAt_1 : decode cX9_restAt 1 = .ok (.invokestatic 150, 3) := by decide +kernel
theorem dX9_restAt_4 : decode cX9_restAt 4 = .ok (.ifCond .ne 5, 3) := by decide +kernel
theorem dX9_restAt_7 : decode cX9_restAt 7 = .ok (.iconst (-1), 1) := by decide +kernel
theorem dX9_restAt_8 : decode cX9_restAt 8 = .ok (.ireturn, 1) := by decide +kernel
theorem dX9_restAt_9 : decode cX9_restAt 9 = .ok (.iload_n 2, 1) := by decide +kernel
theorem dX9_restAt_10 : decode cX9_restAt 10 = .ok (.iconst 0, 1) := by decide +kernel
theorem dX9_restAt_11 : decode cX9_restAt 11 = .ok (.sipush 9260, 3) := by decide +kernel
theorem dX9_restAt_14 : decode cX9_restAt 14 = .ok (.invokestatic 74, 3) := by decide +kernel
theorem dX9_restAt_17 : decode cX9_restAt 17 = .ok (.ifCond .ne 6, 3) := by decide +kernel
theorem dX9_restAt_20 : decode cX9_restAt 20 = .ok (.bipush (-3), 2) := by decide +kernel
theorem dX9_restAt_22 : decode cX9_restAt 22 = .ok (.ireturn, 1) := by decide +kernel
theorem dX9_restAt_23 : decode cX9_restAt 23 = .ok (.aload_n 0, 1) := by decide +kernel
theorem dX9_restAt_24 : decode cX9_restAt 24 = .ok (.getfield 30, 3) := by decide +kernel
theorem dX9_restAt_27 : decode cX9_restAt 27 = .ok (.aload_n 0, 1) := by decide +kernel
theorem dX9_restAt_28 : decode cX9_restAt 28 = .ok (.getfield 10, 3) := by decide +kernel
theorem dX9_restAt_31 : decode cX9_restAt 31 = .ok (.iload_n 1, 1) := by decide +kernel
theorem dX9_restAt_32 : decode cX9_restAt 32 = .ok (.aload_n 0, 1) := by decide +kernel
theorem dX9_restAt_33 : decode cX9_restAt 33 = .ok (.getfield 10, 3) := by decide +kernel
theorem dX9_restAt_36 : decode cX9_restAt 36 = .ok (.getfield 141, 3) := by decide +kernel
theorem dX9_restAt_39 : decode cX9_restAt 39 = .ok (.invokevirtual 154, 3) := by decide +kernel
theorem dX9_restAt_42 : decode cX9_restAt 42 = .ok (.aload_n 0, 1) := by decide +kernel
theorem dX9_restAt_43 : decode cX9_restAt 43 = .ok (.getfield 34, 3) := by decide +kernel
theorem dX9_restAt_46 : decode cX9_restAt 46 = .ok (.aload_n 0, 1) := by decide +kernel
theorem dX9_restAt_47 : decode cX9_restAt 47 = .ok (.getfield 30, 3) := by decide +kernel
theorem dX9_restAt_50 : decode cX9_restAt 50 = .ok (.iload_n 2, 1) := by decide +kernel
theorem dX9_restAt_51 : decode cX9_restAt 51 = .ok (.invokevirtual 185, 3) := by decide +kernel
theorem dX9_restAt_54 : decode cX9_restAt 54 = .ok (.aload_n 0, 1) := by decide +kernel
theorem dX9_restAt_55 : decode cX9_restAt 55 = .ok (.getfield 34, 3) := by decide +kernel
theorem dX9_restAt_58 : decode cX9_restAt 58 = .ok (.getfield 192, 3) := by decide +kernel
theorem dX9_restAt_61 : decode cX9_restAt 61 = .ok (.ifCond .eq 13, 3) := by decide +kernel
theorem dX9_restAt_64 : decode cX9_restAt 64 = .ok (.aload_n 0, 1) := by decide +kernel
theorem dX9_restAt_65 : decode cX9_restAt 65 = .ok (.getfield 34, 3) := by decide +kernel
theorem dX9_restAt_68 : decode cX9_restAt 68 = .ok (.getfield 195, 3) := by decide +kernel
theorem dX9_restAt_71 : decode cX9_restAt 71 = .ok (.goto 5, 3) := by decide +kernel
theorem dX9_restAt_74 : decode cX9_restAt 74 = .ok (.bipush (-3), 2) := by decide +kernel
theorem dX9_restAt_76 : decode cX9_restAt 76 = .ok (.ireturn, 1) := by decide +kernel
theorem dX9_gain_0 : decode cX9_gain 0 = .ok (.iload_n 1, 1) := by decide +kernel
theorem dX9_gain_1 : decode cX9_gain 1 = .ok (.iconst 0, 1) := by decide +kernel
theorem dX9_gain_2 : decode cX9_gain 2 = .ok (.iconst 4, 1) := by decide +kernel
theorem dX9_gain_3 : decode cX9_gain 3 = .ok (.invokestatic 74, 3) := by decide +kernel
theorem dX9_gain_6 : decode cX9_gain 6 = .ok (.ifCond .eq 10, 3) := by decide +kernel
theorem dX9_gain_9 : decode cX9_gain 9 = .ok (.iload_n 2, 1) := by decide +kernel
theorem dX9_gain_10 : decode cX9_gain 10 = .ok (.invokestatic 150, 3) := by decide +kernel
theorem dX9_gain_13 : decode cX9_gain 13 = .ok (.ifCond .ne 6, 3) := by decide +kernel
theorem dX9_gain_16 : decode cX9_gain 16 = .ok (.bipush (-99), 2) := by decide +kernel
theorem dX9_gain_18 : decode cX9_gain 18 = .ok (.ireturn, 1) := by decide +kernel
theorem dX9_gain_19 : decode cX9_gain 19 = .ok (.aload_n 0, 1) := by decide +kernel
theorem dX9_gain_20 : decode cX9_gain 20 = .ok (.getfield 10, 3) := by decide +kernel
theorem dX9_gain_23 : decode cX9_gain 23 = .ok (.getfield 141, 3) := by decide +kernel
theorem dX9_gain_26 : decode cX9_gain 26 = .ok (.bipush 20, 2) := by decide +kernel
theorem dX9_gain_28 : decode cX9_gain 28 = .ok (.if_icmp .lt 6, 3) := by decide +kernel
theorem dX9_gain_31 : decode cX9_gain 31 = .ok (.bipush (-98), 2) := by decide +kernel
theorem dX9_gain_33 : decode cX9_gain 33 = .ok (.ireturn, 1) := by decide +kernel
theorem dX9_gain_34 : decode cX9_gain 34 = .ok (.aload_n 0, 1) := by decide +kernel
theorem dX9_gain_35 : decode cX9_gain 35 = .ok (.getfield 30, 3) := by decide +kernel
theorem dX9_gain_38 : decode cX9_gain 38 = .ok (.aload_n 0, 1) := by decide +kernel
theorem dX9_gain_39 : decode cX9_gain 39 = .ok (.getfield 10, 3) := by decide +kernel
theorem dX9_gain_42 : decode cX9_gain 42 = .ok (.iload_n 2, 1) := by decide +kernel
theorem dX9_gain_43 : decode cX9_gain 43 = .ok (.aload_n 0, 1) := by decide +kernel
theorem dX9_gain_44 : decode cX9_gain 44 = .ok (.getfield 10, 3) := by decide +kernel
theorem dX9_gain_47 : decode cX9_gain 47 = .ok (.getfield 141, 3) := by decide +kernel
theorem dX9_gain_50 : decode cX9_gain 50 = .ok (.iconst 1, 1) := by decide +kernel
theorem dX9_gain_51 : decode cX9_gain 51 = .ok (.iadd, 1) := by decide +kernel
theorem dX9_gain_52 : decode cX9_gain 52 = .ok (.invokevirtual 154, 3) := by decide +kernel
theorem dX9_gain_55 : decode cX9_gain 55 = .ok (.aload_n 0, 1) := by decide +kernel
theorem dX9_gain_56 : decode cX9_gain 56 = .ok (.getfield 30, 3) := by decide +kernel
theorem dX9_gain_59 : decode cX9_gain 59 = .ok (.aload_n 0, 1) := by decide +kernel
theorem dX9_gain_60 : decode cX9_gain 60 = .ok (.getfield 10, 3) := by decide +kernel
theorem dX9_gain_63 : decode cX9_gain 63 = .ok (.getfield 147, 3) := by decide +kernel
theorem dX9_gain_66 : decode cX9_gain 66 = .ok (.invokevirtual 173, 3) := by decide +kernel
theorem dX9_gain_69 : decode cX9_gain 69 = .ok (.aload_n 0, 1) := by decide +kernel
theorem dX9_gain_70 : decode cX9_gain 70 = .ok (.getfield 30, 3) := by decide +kernel
theorem dX9_gain_73 : decode cX9_gain 73 = .ok (.getfield 198, 3) := by decide +kernel
theorem dX9_gain_76 : decode cX9_gain 76 = .ok (.iload_n 1, 1) := by decide +kernel
theorem dX9_gain_77 : decode cX9_gain 77 = .ok (.iaload, 1) := by decide +kernel
theorem dX9_gain_78 : decode cX9_gain 78 = .ok (.istore_n 3, 1) := by decide +kernel
theorem dX9_gain_79 : decode cX9_gain 79 = .ok (.aload_n 0, 1) := by decide +kernel
theorem dX9_gain_80 : decode cX9_gain 80 = .ok (.getfield 30, 3) := by decide +kernel
theorem dX9_gain_83 : decode cX9_gain 83 = .ok (.aload_n 0, 1) := by decide +kernel
theorem dX9_gain_84 : decode cX9_gain 84 = .ok (.getfield 10, 3) := by decide +kernel
theorem dX9_gain_87 : decode cX9_gain 87 = .ok (.iload_n 2, 1) := by decide +kernel
theorem dX9_gain_88 : decode cX9_gain 88 = .ok (.aload_n 0, 1) := by decide +kernel
theorem dX9_gain_89 : decode cX9_gain 89 = .ok (.getfield 10, 3) := by decide +kernel
theorem dX9_gain_92 : decode cX9_gain 92 = .ok (.getfield 141, 3) := by decide +kernel
theorem dX9_gain_95 : decode cX9_gain 95 = .ok (.invokevirtual 154, 3) := by decide +kernel
theorem dX9_gain_98 : decode cX9_gain 98 = .ok (.aload_n 0, 1) := by decide +kernel
theorem dX9_gain_99 : decode cX9_gain 99 = .ok (.getfield 30, 3) := by decide +kernel
theorem dX9_gain_102 : decode cX9_gain 102 = .ok (.aload_n 0, 1) := by decide +kernel
theorem dX9_gain_103 : decode cX9_gain 103 = .ok (.getfield 10, 3) := by decide +kernel
theorem dX9_gain_106 : decode cX9_gain 106 = .ok (.getfield 147, 3) := by decide +kernel
theorem dX9_gain_109 : decode cX9_gain 109 = .ok (.invokevirtual 173, 3) := by decide +kernel
theorem dX9_gain_112 : decode cX9_gain 112 = .ok (.iload_n 3, 1) := by decide +kernel
theorem dX9_gain_113 : decode cX9_gain 113 = .ok (.aload_n 0, 1) := by decide +kernel
theorem dX9_gain_114 : decode cX9_gain 114 = .ok (.getfield 30, 3) := by decide +kernel
theorem dX9_gain_117 : decode cX9_gain 117 = .ok (.getfield 198, 3) := by decide +kernel
theorem dX9_gain_120 : decode cX9_gain 120 = .ok (.iload_n 1, 1) := by decide +kernel
theorem dX9_gain_121 : decode cX9_gain 121 = .ok (.iaload, 1) := by decide +kernel
theorem dX9_gain_122 : decode cX9_gain 122 = .ok (.isub, 1) := by decide +kernel
theorem dX9_gain_123 : decode cX9_gain 123 = .ok (.ireturn, 1) := by decide +kernel
theorem dX9_feed_0 : decode cX9_feed 0 = .ok (.iload_n 3, 1) := by decide +kernel
theorem dX9_feed_1 : decode cX9_feed 1 = .ok (.iconst 1, 1) := by decide +kernel
theorem dX9_feed_2 : decode cX9_feed 2 = .ok (.bipush 8, 2) := by decide +kernel
theorem dX9_feed_4 : decode cX9_feed 4 = .ok (.invokestatic 74, 3) := by decide +kernel
theorem dX9_feed_7 : decode cX9_feed 7 = .ok (.ifCond .ne 5, 3) := by decide +kernel
theorem dX9_feed_10 : decode cX9_feed 10 = .ok (.iconst (-1), 1) := by decide +kernel
theorem dX9_feed_11 : decode cX9_feed 11 = .ok (.ireturn, 1) := by decide +kernel
theorem dX9_feed_12 : decode cX9_feed 12 = .ok (.aload_n 0, 1) := by decide +kernel
theorem dX9_feed_13 : decode cX9_feed 13 = .ok (.getfield 41, 3) := by decide +kernel
theorem dX9_feed_16 : decode cX9_feed 16 = .ok (.getfield 201, 3) := by decide +kernel
theorem dX9_feed_19 : decode cX9_feed 19 = .ok (.iload_n 3, 1) := by decide +kernel
theorem dX9_feed_20 : decode cX9_feed 20 = .ok (.iadd, 1) := by decide +kernel
theorem dX9_feed_21 : decode cX9_feed 21 = .ok (.sipush 220, 3) := by decide +kernel
theorem dX9_feed_24 : decode cX9_feed 24 = .ok (.if_icmp .le 6, 3) := by decide +kernel
theorem dX9_feed_27 : decode cX9_feed 27 = .ok (.bipush (-2), 2) := by decide +kernel
theorem dX9_feed_29 : decode cX9_feed 29 = .ok (.ireturn, 1) := by decide +kernel
theorem dX9_feed_30 : decode cX9_feed 30 = .ok (.aload_n 0, 1) := by decide +kernel
theorem dX9_feed_31 : decode cX9_feed 31 = .ok (.getfield 41, 3) := by decide +kernel
theorem dX9_feed_34 : decode cX9_feed 34 = .ok (.lload_n 1, 1) := by decide +kernel
theorem dX9_feed_35 : decode cX9_feed 35 = .ok (.iload_n 3, 1) := by decide +kernel
theorem dX9_feed_36 : decode cX9_feed 36 = .ok (.invokevirtual 204, 3) := by decide +kernel
theorem dX9_feed_39 : decode cX9_feed 39 = .ok (.aload_n 0, 1) := by decide +kernel
theorem dX9_feed_40 : decode cX9_feed 40 = .ok (.getfield 41, 3) := by decide +kernel
theorem dX9_feed_43 : decode cX9_feed 43 = .ok (.getfield 201, 3) := by decide +kernel
theorem dX9_feed_46 : decode cX9_feed 46 = .ok (.ireturn, 1) := by decide +kernel
theorem dX9_read_0 : decode cX9_read 0 = .ok (.aload_n 0, 1) := by decide +kernel
theorem dX9_read_1 : decode cX9_read 1 = .ok (.getfield 41, 3) := by decide +kernel
theorem dX9_read_4 : decode cX9_read 4 = .ok (.invokevirtual 208, 3) := by decide +kernel
theorem dX9_read_7 : decode cX9_read 7 = .ok (.istore_n 1, 1) := by decide +kernel
theorem dX9_read_8 : decode cX9_read 8 = .ok (.aload_n 0, 1) := by decide +kernel
theorem dX9_read_9 : decode cX9_read 9 = .ok (.getfield 41, 3) := by decide +kernel
theorem dX9_read_12 : decode cX9_read 12 = .ok (.iconst 0, 1) := by decide +kernel
theorem dX9_read_13 : decode cX9_read 13 = .ok (.putfield 201, 3) := by decide +kernel
theorem dX9_read_16 : decode cX9_read 16 = .ok (.iload_n 1, 1) := by decide +kernel
theorem dX9_read_17 : decode cX9_read 17 = .ok (.ifCond .lt 8, 3) := by decide +kernel
theorem dX9_read_20 : decode cX9_read 20 = .ok (.bipush (-100), 2) := by decide +kernel
theorem dX9_read_22 : decode cX9_read 22 = .ok (.iload_n 1, 1) := by decide +kernel
theorem dX9_read_23 : decode cX9_read 23 = .ok (.isub, 1) := by decide +kernel
theorem dX9_read_24 : decode cX9_read 24 = .ok (.ireturn, 1) := by decide +kernel
theorem dX9_read_25 : decode cX9_read 25 = .ok (.aload_n 0, 1) := by decide +kernel
theorem dX9_read_26 : decode cX9_read 26 = .ok (.getfield 10, 3) := by decide +kernel
theorem dX9_read_29 : decode cX9_read 29 = .ok (.getfield 211, 3) := by decide +kernel
theorem dX9_read_32 : decode cX9_read 32 = .ok (.aload_n 0, 1) := by decide +kernel
theorem dX9_read_33 : decode cX9_read 33 = .ok (.getfield 41, 3) := by decide +kernel
theorem dX9_read_36 : decode cX9_read 36 = .ok (.getfield 215, 3) := by decide +kernel
theorem dX9_read_39 : decode cX9_read 39 = .ok (.invokevirtual 218, 3) := by decide +kernel
theorem dX9_read_42 : decode cX9_read 42 = .ok (.aload_n 0, 1) := by decide +kernel
theorem dX9_read_43 : decode cX9_read 43 = .ok (.getfield 10, 3) := by decide +kernel
theorem dX9_read_46 : decode cX9_read 46 = .ok (.getfield 211, 3) := by decide +kernel
theorem dX9_read_49 : decode cX9_read 49 = .ok (.getfield 224, 3) := by decide +kernel
theorem dX9_read_52 : decode cX9_read 52 = .ok (.ireturn, 1) := by decide +kernel
theorem dX9_missed_0 : decode cX9_missed 0 = .ok (.aload_n 0, 1) := by decide +kernel
theorem dX9_missed_1 : decode cX9_missed 1 = .ok (.getfield 22, 3) := by decide +kernel
theorem dX9_missed_4 : decode cX9_missed 4 = .ok (.aload_n 0, 1) := by decide +kernel
theorem dX9_missed_5 : decode cX9_missed 5 = .ok (.getfield 10, 3) := by decide +kernel
theorem dX9_missed_8 : decode cX9_missed 8 = .ok (.invokevirtual 227, 3) := by decide +kernel
theorem dX9_missed_11 : decode cX9_missed 11 = .ok (.ireturn, 1) := by decide +kernel
theorem dX9_worst_0 : decode cX9_worst 0 = .ok (.iload_n 1, 1) := by decide +kernel
theorem dX9_worst_1 : decode cX9_worst 1 = .ok (.iconst 0, 1) := by decide +kernel
theorem dX9_worst_2 : decode cX9_worst 2 = .ok (.aload_n 0, 1) := by decide +kernel
theorem dX9_worst_3 : decode cX9_worst 3 = .ok (.getfield 10, 3) := by decide +kernel
theorem dX9_worst_6 : decode cX9_worst 6 = .ok (.getfield 211, 3) := by decide +kernel
theorem dX9_worst_9 : decode cX9_worst 9 = .ok (.getfield 224, 3) := by decide +kernel
theorem dX9_worst_12 : decode cX9_worst 12 = .ok (.iconst 1, 1) := by decide +kernel
theorem dX9_worst_13 : decode cX9_worst 13 = .ok (.isub, 1) := by decide +kernel
theorem dX9_worst_14 : decode cX9_worst 14 = .ok (.invokestatic 74, 3) := by decide +kernel
theorem dX9_worst_17 : decode cX9_worst 17 = .ok (.ifCond .ne 5, 3) := by decide +kernel
theorem dX9_worst_20 : decode cX9_worst 20 = .ok (.iconst (-1), 1) := by decide +kernel
theorem dX9_worst_21 : decode cX9_worst 21 = .ok (.ireturn, 1) := by decide +kernel
theorem dX9_worst_22 : decode cX9_worst 22 = .ok (.aload_n 0, 1) := by decide +kernel
theorem dX9_worst_23 : decode cX9_worst 23 = .ok (.getfield 22, 3) := by decide +kernel
theorem dX9_worst_26 : decode cX9_worst 26 = .ok (.aload_n 0, 1) := by decide +kernel
theorem dX9_worst_27 : decode cX9_worst 27 = .ok (.getfield 10, 3) := by decide +kernel
theorem dX9_worst_30 : decode cX9_worst 30 = .ok (.iload_n 1, 1) := by decide +kernel
theorem dX9_worst_31 : decode cX9_worst 31 = .ok (.invokevirtual 231, 3) := by decide +kernel
theorem dX9_worst_34 : decode cX9_worst 34 = .ok (.istore_n 2, 1) := by decide +kernel
theorem dX9_worst_35 : decode cX9_worst 35 = .ok (.iload_n 2, 1) := by decide +kernel
theorem dX9_worst_36 : decode cX9_worst 36 = .ok (.ifCond .ge 8, 3) := by decide +kernel
theorem dX9_worst_39 : decode cX9_worst 39 = .ok (.bipush (-3), 2) := by decide +kernel
theorem dX9_worst_41 : decode cX9_worst 41 = .ok (.goto 4, 3) := by decide +kernel
theorem dX9_worst_44 : decode cX9_worst 44 = .ok (.iload_n 2, 1) := by decide +kernel
theorem dX9_worst_45 : decode cX9_worst 45 = .ok (.ireturn, 1) := by decide +kernel
theorem dX9_holds_0 : decode cX9_holds 0 = .ok (.iload_n 1, 1) := by decide +kernel
theorem dX9_holds_1 : decode cX9_holds 1 = .ok (.invokestatic 150, 3) := by decide +kernel
theorem dX9_holds_4 : decode cX9_holds 4 = .ok (.ifCond .ne 5, 3) := by decide +kernel
theorem dX9_holds_7 : decode cX9_holds 7 = .ok (.iconst (-1), 1) := by decide +kernel
theorem dX9_holds_8 : decode cX9_holds 8 = .ok (.ireturn, 1) := by decide +kernel
theorem dX9_holds_9 : decode cX9_holds 9 = .ok (.aload_n 0, 1) := by decide +kernel
theorem dX9_holds_10 : decode cX9_holds 10 = .ok (.getfield 22, 3) := by decide +kernel
theorem dX9_holds_13 : decode cX9_holds 13 = .ok (.aload_n 0, 1) := by decide +kernel
theorem dX9_holds_14 : decode cX9_holds 14 = .ok (.getfield 10, 3) := by decide +kernel
theorem dX9_holds_17 : decode cX9_holds 17 = .ok (.iload_n 1, 1) := by decide +kernel
theorem dX9_holds_18 : decode cX9_holds 18 = .ok (.invokevirtual 235, 3) := by decide +kernel
theorem dX9_holds_21 : decode cX9_holds 21 = .ok (.ireturn, 1) := by decide +kernel
theorem dX9_open_0 : decode cX9_open 0 = .ok (.aload_n 0, 1) := by decide +kernel
theorem dX9_open_1 : decode cX9_open 1 = .ok (.getfield 10, 3) := by decide +kernel
theorem dX9_open_4 : decode cX9_open 4 = .ok (.iload_n 1, 1) := by decide +kernel
theorem dX9_open_5 : decode cX9_open 5 = .ok (.invokevirtual 124, 3) := by decide +kernel
theorem dX9_open_8 : decode cX9_open 8 = .ok (.ifCond .ne 5, 3) := by decide +kernel
theorem dX9_open_11 : decode cX9_open 11 = .ok (.iconst (-1), 1) := by decide +kernel
theorem dX9_open_12 : decode cX9_open 12 = .ok (.ireturn, 1) := by decide +kernel
theorem dX9_open_13 : decode cX9_open 13 = .ok (.iload_n 3, 1) := by decide +kernel
theorem dX9_open_14 : decode cX9_open 14 = .ok (.ifCond .eq 61, 3) := by decide +kernel
theorem dX9_open_17 : decode cX9_open 17 = .ok (.iload_n 2, 1) := by decide +kernel
theorem dX9_open_18 : decode cX9_open 18 = .ok (.iconst 1, 1) := by decide +kernel
theorem dX9_open_19 : decode cX9_open 19 = .ok (.bipush 9, 2) := by decide +kernel
theorem dX9_open_21 : decode cX9_open 21 = .ok (.invokestatic 74, 3) := by decide +kernel
theorem dX9_open_24 : decode cX9_open 24 = .ok (.ifCond .eq 20, 3) := by decide +kernel
theorem dX9_open_27 : decode cX9_open 27 = .ok (.iload_n 3, 1) := by decide +kernel
theorem dX9_open_28 : decode cX9_open 28 = .ok (.iload_n 2, 1) := by decide +kernel
theorem dX9_open_29 : decode cX9_open 29 = .ok (.bipush 9, 2) := by decide +kernel
theorem dX9_open_31 : decode cX9_open 31 = .ok (.invokestatic 74, 3) := by decide +kernel
theorem dX9_open_34 : decode cX9_open 34 = .ok (.ifCond .eq 10, 3) := by decide +kernel
theorem dX9_open_37 : decode cX9_open 37 = .ok (.iload_n 3, 1) := by decide +kernel
theorem dX9_open_38 : decode cX9_open 38 = .ok (.iload_n 2, 1) := by decide +kernel
theorem dX9_open_39 : decode cX9_open 39 = .ok (.isub, 1) := by decide +kernel
theorem dX9_open_40 : decode cX9_open 40 = .ok (.iconst 4, 1) := by decide +kernel
theorem dX9_open_41 : decode cX9_open 41 = .ok (.if_icmp .lt 5, 3) := by decide +kernel
theorem dX9_open_44 : decode cX9_open 44 = .ok (.iconst (-1), 1) := by decide +kernel
theorem dX9_open_45 : decode cX9_open 45 = .ok (.ireturn, 1) := by decide +kernel
theorem dX9_open_46 : decode cX9_open 46 = .ok (.aload_n 0, 1) := by decide +kernel
theorem dX9_open_47 : decode cX9_open 47 = .ok (.getfield 10, 3) := by decide +kernel
theorem dX9_open_50 : decode cX9_open 50 = .ok (.getfield 114, 3) := by decide +kernel
theorem dX9_open_53 : decode cX9_open 53 = .ok (.iload_n 1, 1) := by decide +kernel
theorem dX9_open_54 : decode cX9_open 54 = .ok (.aaload, 1) := by decide +kernel
theorem dX9_open_55 : decode cX9_open 55 = .ok (.invokevirtual 238, 3) := by decide +kernel
theorem dX9_open_58 : decode cX9_open 58 = .ok (.ifCond .ne 17, 3) := by decide +kernel
theorem dX9_open_61 : decode cX9_open 61 = .ok (.aload_n 0, 1) := by decide +kernel
theorem dX9_open_62 : decode cX9_open 62 = .ok (.getfield 10, 3) := by decide +kernel
theorem dX9_open_65 : decode cX9_open 65 = .ok (.invokevirtual 242, 3) := by decide +kernel
theorem dX9_open_68 : decode cX9_open 68 = .ok (.iconst 4, 1) := by decide +kernel
theorem dX9_open_69 : decode cX9_open 69 = .ok (.if_icmp .lt 6, 3) := by decide +kernel
theorem dX9_open_72 : decode cX9_open 72 = .ok (.bipush (-2), 2) := by decide +kernel
theorem dX9_open_74 : decode cX9_open 74 = .ok (.ireturn, 1) := by decide +kernel
theorem dX9_open_75 : decode cX9_open 75 = .ok (.aload_n 0, 1) := by decide +kernel
theorem dX9_open_76 : decode cX9_open 76 = .ok (.getfield 10, 3) := by decide +kernel
theorem dX9_open_79 : decode cX9_open 79 = .ok (.getfield 114, 3) := by decide +kernel
theorem dX9_open_82 : decode cX9_open 82 = .ok (.iload_n 1, 1) := by decide +kernel
theorem dX9_open_83 : decode cX9_open 83 = .ok (.aaload, 1) := by decide +kernel
theorem dX9_open_84 : decode cX9_open 84 = .ok (.iload_n 3, 1) := by decide +kernel
theorem dX9_open_85 : decode cX9_open 85 = .ok (.ifCond .ne 7, 3) := by decide +kernel
theorem dX9_open_88 : decode cX9_open 88 = .ok (.iconst 0, 1) := by decide +kernel
theorem dX9_open_89 : decode cX9_open 89 = .ok (.goto 4, 3) := by decide +kernel
theorem dX9_open_92 : decode cX9_open 92 = .ok (.iload_n 2, 1) := by decide +kernel
theorem dX9_open_93 : decode cX9_open 93 = .ok (.putfield 245, 3) := by decide +kernel
theorem dX9_open_96 : decode cX9_open 96 = .ok (.aload_n 0, 1) := by decide +kernel
theorem dX9_open_97 : decode cX9_open 97 = .ok (.getfield 10, 3) := by decide +kernel
theorem dX9_open_100 : decode cX9_open 100 = .ok (.getfield 114, 3) := by decide +kernel
theorem dX9_open_103 : decode cX9_open 103 = .ok (.iload_n 1, 1) := by decide +kernel
theorem dX9_open_104 : decode cX9_open 104 = .ok (.aaload, 1) := by decide +kernel
theorem dX9_open_105 : decode cX9_open 105 = .ok (.iload_n 3, 1) := by decide +kernel
theorem dX9_open_106 : decode cX9_open 106 = .ok (.putfield 248, 3) := by decide +kernel
theorem dX9_open_109 : decode cX9_open 109 = .ok (.aload_n 0, 1) := by decide +kernel
theorem dX9_open_110 : decode cX9_open 110 = .ok (.getfield 10, 3) := by decide +kernel
theorem dX9_open_113 : decode cX9_open 113 = .ok (.invokevirtual 242, 3) := by decide +kernel
theorem dX9_open_116 : decode cX9_open 116 = .ok (.ireturn, 1) := by decide +kernel
theorem dX9_sizing_0 : decode cX9_sizing 0 = .ok (.iload_n 1, 1) := by decide +kernel
theorem dX9_sizing_1 : decode cX9_sizing 1 = .ok (.iconst (-1), 1) := by decide +kernel
theorem dX9_sizing_2 : decode cX9_sizing 2 = .ok (.aload_n 0, 1) := by decide +kernel
theorem dX9_sizing_3 : decode cX9_sizing 3 = .ok (.getfield 10, 3) := by decide +kernel
theorem dX9_sizing_6 : decode cX9_sizing 6 = .ok (.invokevirtual 242, 3) := by decide +kernel
theorem dX9_sizing_9 : decode cX9_sizing 9 = .ok (.iconst 1, 1) := by decide +kernel
theorem dX9_sizing_10 : decode cX9_sizing 10 = .ok (.isub, 1) := by decide +kernel
theorem dX9_sizing_11 : decode cX9_sizing 11 = .ok (.invokestatic 74, 3) := by decide +kernel
theorem dX9_sizing_14 : decode cX9_sizing 14 = .ok (.ifCond .ne 5, 3) := by decide +kernel
theorem dX9_sizing_17 : decode cX9_sizing 17 = .ok (.iconst (-1), 1) := by decide +kernel
theorem dX9_sizing_18 : decode cX9_sizing 18 = .ok (.ireturn, 1) := by decide +kernel
theorem dX9_sizing_19 : decode cX9_sizing 19 = .ok (.aload_n 0, 1) := by decide +kernel
theorem dX9_sizing_20 : decode cX9_sizing 20 = .ok (.getfield 22, 3) := by decide +kernel
theorem dX9_sizing_23 : decode cX9_sizing 23 = .ok (.aload_n 0, 1) := by decide +kernel
theorem dX9_sizing_24 : decode cX9_sizing 24 = .ok (.getfield 10, 3) := by decide +kernel
theorem dX9_sizing_27 : decode cX9_sizing 27 = .ok (.invokevirtual 251, 3) := by decide +kernel
theorem dX9_sizing_30 : decode cX9_sizing 30 = .ok (.ifCond .ne 6, 3) := by decide +kernel
theorem dX9_sizing_33 : decode cX9_sizing 33 = .ok (.bipush (-3), 2) := by decide +kernel
theorem dX9_sizing_35 : decode cX9_sizing 35 = .ok (.ireturn, 1) := by decide +kernel
theorem dX9_sizing_36 : decode cX9_sizing 36 = .ok (.iload_n 1, 1) := by decide +kernel
theorem dX9_sizing_37 : decode cX9_sizing 37 = .ok (.ifCond .ge 13, 3) := by decide +kernel
theorem dX9_sizing_40 : decode cX9_sizing 40 = .ok (.aload_n 0, 1) := by decide +kernel
theorem dX9_sizing_41 : decode cX9_sizing 41 = .ok (.getfield 22, 3) := by decide +kernel
theorem dX9_sizing_44 : decode cX9_sizing 44 = .ok (.getfield 255, 3) := by decide +kernel
theorem dX9_sizing_47 : decode cX9_sizing 47 = .ok (.goto 12, 3) := by decide +kernel
theorem dX9_sizing_50 : decode cX9_sizing 50 = .ok (.aload_n 0, 1) := by decide +kernel
theorem dX9_sizing_51 : decode cX9_sizing 51 = .ok (.getfield 22, 3) := by decide +kernel
theorem dX9_sizing_54 : decode cX9_sizing 54 = .ok (.getfield 258, 3) := by decide +kernel
theorem dX9_sizing_57 : decode cX9_sizing 57 = .ok (.iload_n 1, 1) := by decide +kernel
theorem dX9_sizing_58 : decode cX9_sizing 58 = .ok (.iaload, 1) := by decide +kernel
theorem dX9_sizing_59 : decode cX9_sizing 59 = .ok (.ireturn, 1) := by decide +kernel
theorem dX9_prove_0 : decode cX9_prove 0 = .ok (.aload_n 0, 1) := by decide +kernel
theorem dX9_prove_1 : decode cX9_prove 1 = .ok (.getfield 22, 3) := by decide +kernel
theorem dX9_prove_4 : decode cX9_prove 4 = .ok (.aload_n 0, 1) := by decide +kernel
theorem dX9_prove_5 : decode cX9_prove 5 = .ok (.getfield 10, 3) := by decide +kernel
theorem dX9_prove_8 : decode cX9_prove 8 = .ok (.invokevirtual 251, 3) := by decide +kernel
theorem dX9_prove_11 : decode cX9_prove 11 = .ok (.ifCond .ne 6, 3) := by decide +kernel
theorem dX9_prove_14 : decode cX9_prove 14 = .ok (.bipush (-3), 2) := by decide +kernel
theorem dX9_prove_16 : decode cX9_prove 16 = .ok (.ireturn, 1) := by decide +kernel
theorem dX9_prove_17 : decode cX9_prove 17 = .ok (.aload_n 0, 1) := by decide +kernel
theorem dX9_prove_18 : decode cX9_prove 18 = .ok (.aload_n 0, 1) := by decide +kernel
theorem dX9_prove_19 : decode cX9_prove 19 = .ok (.getfield 22, 3) := by decide +kernel
theorem dX9_prove_22 : decode cX9_prove 22 = .ok (.getfield 261, 3) := by decide +kernel
theorem dX9_prove_25 : decode cX9_prove 25 = .ok (.putfield 66, 3) := by decide +kernel
theorem dX9_prove_28 : decode cX9_prove 28 = .ok (.iconst 0, 1) := by decide +kernel
theorem dX9_prove_29 : decode cX9_prove 29 = .ok (.istore_n 1, 1) := by decide +kernel
theorem dX9_prove_30 : decode cX9_prove 30 = .ok (.iload_n 1, 1) := by decide +kernel
theorem dX9_prove_31 : decode cX9_prove 31 = .ok (.aload_n 0, 1) := by decide +kernel
theorem dX9_prove_32 : decode cX9_prove 32 = .ok (.getfield 66, 3) := by decide +kernel
theorem dX9_prove_35 : decode cX9_prove 35 = .ok (.if_icmp .ge 39, 3) := by decide +kernel
theorem dX9_prove_38 : decode cX9_prove 38 = .ok (.aload_n 0, 1) := by decide +kernel
theorem dX9_prove_39 : decode cX9_prove 39 = .ok (.getfield 59, 3) := by decide +kernel
theorem dX9_prove_42 : decode cX9_prove 42 = .ok (.iload_n 1, 1) := by decide +kernel
theorem dX9_prove_43 : decode cX9_prove 43 = .ok (.aload_n 0, 1) := by decide +kernel
theorem dX9_prove_44 : decode cX9_prove 44 = .ok (.getfield 22, 3) := by decide +kernel
theorem dX9_prove_47 : decode cX9_prove 47 = .ok (.getfield 263, 3) := by decide +kernel
theorem dX9_prove_50 : decode cX9_prove 50 = .ok (.iload_n 1, 1) := by decide +kernel
theorem dX9_prove_51 : decode cX9_prove 51 = .ok (.iaload, 1) := by decide +kernel
theorem dX9_prove_52 : decode cX9_prove 52 = .ok (.iastore, 1) := by decide +kernel
theorem dX9_prove_53 : decode cX9_prove 53 = .ok (.aload_n 0, 1) := by decide +kernel
theorem dX9_prove_54 : decode cX9_prove 54 = .ok (.getfield 63, 3) := by decide +kernel
theorem dX9_prove_57 : decode cX9_prove 57 = .ok (.iload_n 1, 1) := by decide +kernel
theorem dX9_prove_58 : decode cX9_prove 58 = .ok (.aload_n 0, 1) := by decide +kernel
theorem dX9_prove_59 : decode cX9_prove 59 = .ok (.getfield 22, 3) := by decide +kernel
theorem dX9_prove_62 : decode cX9_prove 62 = .ok (.getfield 258, 3) := by decide +kernel
theorem dX9_prove_65 : decode cX9_prove 65 = .ok (.iload_n 1, 1) := by decide +kernel
theorem dX9_prove_66 : decode cX9_prove 66 = .ok (.iaload, 1) := by decide +kernel
theorem dX9_prove_67 : decode cX9_prove 67 = .ok (.iastore, 1) := by decide +kernel
theorem dX9_prove_68 : decode cX9_prove 68 = .ok (.iinc 1 1, 3) := by decide +kernel
theorem dX9_prove_71 : decode cX9_prove 71 = .ok (.goto (-41), 3) := by decide +kernel
theorem dX9_prove_74 : decode cX9_prove 74 = .ok (.aload_n 0, 1) := by decide +kernel
theorem dX9_prove_75 : decode cX9_prove 75 = .ok (.getfield 66, 3) := by decide +kernel
theorem dX9_prove_78 : decode cX9_prove 78 = .ok (.ireturn, 1) := by decide +kernel
theorem dX9_row_0 : decode cX9_row 0 = .ok (.iload_n 1, 1) := by decide +kernel
theorem dX9_row_1 : decode cX9_row 1 = .ok (.iconst 0, 1) := by decide +kernel
theorem dX9_row_2 : decode cX9_row 2 = .ok (.aload_n 0, 1) := by decide +kernel
theorem dX9_row_3 : decode cX9_row 3 = .ok (.getfield 66, 3) := by decide +kernel
theorem dX9_row_6 : decode cX9_row 6 = .ok (.iconst 1, 1) := by decide +kernel
theorem dX9_row_7 : decode cX9_row 7 = .ok (.isub, 1) := by decide +kernel
theorem dX9_row_8 : decode cX9_row 8 = .ok (.invokestatic 74, 3) := by decide +kernel
theorem dX9_row_11 : decode cX9_row 11 = .ok (.ifCond .eq 12, 3) := by decide +kernel
theorem dX9_row_14 : decode cX9_row 14 = .ok (.iload_n 2, 1) := by decide +kernel
theorem dX9_row_15 : decode cX9_row 15 = .ok (.iconst 0, 1) := by decide +kernel
theorem dX9_row_16 : decode cX9_row 16 = .ok (.iconst 1, 1) := by decide +kernel
theorem dX9_row_17 : decode cX9_row 17 = .ok (.invokestatic 74, 3) := by decide +kernel
theorem dX9_row_20 : decode cX9_row 20 = .ok (.ifCond .ne 6, 3) := by decide +kernel
theorem dX9_row_23 : decode cX9_row 23 = .ok (.bipush (-9), 2) := by decide +kernel
theorem dX9_row_25 : decode cX9_row 25 = .ok (.ireturn, 1) := by decide +kernel
theorem dX9_row_26 : decode cX9_row 26 = .ok (.iload_n 2, 1) := by decide +kernel
theorem dX9_row_27 : decode cX9_row 27 = .ok (.ifCond .ne 12, 3) := by decide +kernel
theorem dX9_row_30 : decode cX9_row 30 = .ok (.aload_n 0, 1) := by decide +kernel
theorem dX9_row_31 : decode cX9_row 31 = .ok (.getfield 59, 3) := by decide +kernel
theorem dX9_row_34 : decode cX9_row 34 = .ok (.iload_n 1, 1) := by decide +kernel
theorem dX9_row_35 : decode cX9_row 35 = .ok (.iaload, 1) := by decide +kernel
theorem dX9_row_36 : decode cX9_row 36 = .ok (.goto 9, 3) := by decide +kernel
theorem dX9_row_39 : decode cX9_row 39 = .ok (.aload_n 0, 1) := by decide +kernel
theorem dX9_row_40 : decode cX9_row 40 = .ok (.getfield 63, 3) := by decide +kernel
theorem dX9_row_43 : decode cX9_row 43 = .ok (.iload_n 1, 1) := by decide +kernel
theorem dX9_row_44 : decode cX9_row 44 = .ok (.iaload, 1) := by decide +kernel
theorem dX9_row_45 : decode cX9_row 45 = .ok (.ireturn, 1) := by decide +kernel
theorem dX9_alterRow_0 : decode cX9_alterRow 0 = .ok (.iload_n 1, 1) := by decide +kernel
theorem dX9_alterRow_1 : decode cX9_alterRow 1 = .ok (.iconst 0, 1) := by decide +kernel
theorem dX9_alterRow_2 : decode cX9_alterRow 2 = .ok (.aload_n 0, 1) := by decide +kernel
theorem dX9_alterRow_3 : decode cX9_alterRow 3 = .ok (.getfield 66, 3) := by decide +kernel
theorem dX9_alterRow_6 : decode cX9_alterRow 6 = .ok (.iconst 1, 1) := by decide +kernel
theorem dX9_alterRow_7 : decode cX9_alterRow 7 = .ok (.isub, 1) := by decide +kernel
theorem dX9_alterRow_8 : decode cX9_alterRow 8 = .ok (.invokestatic 74, 3) := by decide +kernel
theorem dX9_alterRow_11 : decode cX9_alterRow 11 = .ok (.ifCond .eq 12, 3) := by decide +kernel
theorem dX9_alterRow_14 : decode cX9_alterRow 14 = .ok (.iload_n 2, 1) := by decide +kernel
theorem dX9_alterRow_15 : decode cX9_alterRow 15 = .ok (.iconst 0, 1) := by decide +kernel
theorem dX9_alterRow_16 : decode cX9_alterRow 16 = .ok (.iconst 1, 1) := by decide +kernel
theorem dX9_alterRow_17 : decode cX9_alterRow 17 = .ok (.invokestatic 74, 3) := by decide +kernel
theorem dX9_alterRow_20 : decode cX9_alterRow 20 = .ok (.ifCond .ne 6, 3) := by decide +kernel
theorem dX9_alterRow_23 : decode cX9_alterRow 23 = .ok (.bipush (-9), 2) := by decide +kernel
theorem dX9_alterRow_25 : decode cX9_alterRow 25 = .ok (.ireturn, 1) := by decide +kernel
theorem dX9_alterRow_26 : decode cX9_alterRow 26 = .ok (.iload_n 2, 1) := by decide +kernel
theorem dX9_alterRow_27 : decode cX9_alterRow 27 = .ok (.ifCond .ne 12, 3) := by decide +kernel
theorem dX9_alterRow_30 : decode cX9_alterRow 30 = .ok (.aload_n 0, 1) := by decide +kernel
theorem dX9_alterRow_31 : decode cX9_alterRow 31 = .ok (.getfield 59, 3) := by decide +kernel
theorem dX9_alterRow_34 : decode cX9_alterRow 34 = .ok (.iload_n 1, 1) := by decide +kernel
theorem dX9_alterRow_35 : decode cX9_alterRow 35 = .ok (.iaload, 1) := by decide +kernel
theorem dX9_alterRow_36 : decode cX9_alterRow 36 = .ok (.goto 9, 3) := by decide +kernel
theorem dX9_alterRow_39 : decode cX9_alterRow 39 = .ok (.aload_n 0, 1) := by decide +kernel
theorem dX9_alterRow_40 : decode cX9_alterRow 40 = .ok (.getfield 63, 3) := by decide +kernel
theorem dX9_alterRow_43 : decode cX9_alterRow 43 = .ok (.iload_n 1, 1) := by decide +kernel
theorem dX9_alterRow_44 : decode cX9_alterRow 44 = .ok (.iaload, 1) := by decide +kernel
theorem dX9_alterRow_45 : decode cX9_alterRow 45 = .ok (.istore 4, 2) := by decide +kernel
theorem dX9_alterRow_47 : decode cX9_alterRow 47 = .ok (.iload_n 2, 1) := by decide +kernel
theorem dX9_alterRow_48 : decode cX9_alterRow 48 = .ok (.ifCond .ne 13, 3) := by decide +kernel
theorem dX9_alterRow_51 : decode cX9_alterRow 51 = .ok (.aload_n 0, 1) := by decide +kernel
theorem dX9_alterRow_52 : decode cX9_alterRow 52 = .ok (.getfield 59, 3) := by decide +kernel
theorem dX9_alterRow_55 : decode cX9_alterRow 55 = .ok (.iload_n 1, 1) := by decide +kernel
theorem dX9_alterRow_56 : decode cX9_alterRow 56 = .ok (.iload_n 3, 1) := by decide +kernel
theorem dX9_alterRow_57 : decode cX9_alterRow 57 = .ok (.iastore, 1) := by decide +kernel
theorem dX9_alterRow_58 : decode cX9_alterRow 58 = .ok (.goto 10, 3) := by decide +kernel
theorem dX9_alterRow_61 : decode cX9_alterRow 61 = .ok (.aload_n 0, 1) := by decide +kernel
theorem dX9_alterRow_62 : decode cX9_alterRow 62 = .ok (.getfield 63, 3) := by decide +kernel
theorem dX9_alterRow_65 : decode cX9_alterRow 65 = .ok (.iload_n 1, 1) := by decide +kernel
theorem dX9_alterRow_66 : decode cX9_alterRow 66 = .ok (.iload_n 3, 1) := by decide +kernel
theorem dX9_alterRow_67 : decode cX9_alterRow 67 = .ok (.iastore, 1) := by decide +kernel
theorem dX9_alterRow_68 : decode cX9_alterRow 68 = .ok (.iload 4, 2) := by decide +kernel
theorem dX9_alterRow_70 : decode cX9_alterRow 70 = .ok (.ireturn, 1) := by decide +kernel
theorem dX9_judge_0 : decode cX9_judge 0 = .ok (.aload_n 0, 1) := by decide +kernel
theorem dX9_judge_1 : decode cX9_judge 1 = .ok (.getfield 22, 3) := by decide +kernel
theorem dX9_judge_4 : decode cX9_judge 4 = .ok (.aload_n 0, 1) := by decide +kernel
theorem dX9_judge_5 : decode cX9_judge 5 = .ok (.getfield 10, 3) := by decide +kernel
theorem dX9_judge_8 : decode cX9_judge 8 = .ok (.invokevirtual 266, 3) := by decide +kernel
theorem dX9_judge_11 : decode cX9_judge 11 = .ok (.iconst 0, 1) := by decide +kernel
theorem dX9_judge_12 : decode cX9_judge 12 = .ok (.istore_n 1, 1) := by decide +kernel
theorem dX9_judge_13 : decode cX9_judge 13 = .ok (.iload_n 1, 1) := by decide +kernel
theorem dX9_judge_14 : decode cX9_judge 14 = .ok (.aload_n 0, 1) := by decide +kernel
theorem dX9_judge_15 : decode cX9_judge 15 = .ok (.getfield 66, 3) := by decide +kernel
theorem dX9_judge_18 : decode cX9_judge 18 = .ok (.if_icmp .ge 40, 3) := by decide +kernel
theorem dX9_judge_21 : decode cX9_judge 21 = .ok (.aload_n 0, 1) := by decide +kernel
theorem dX9_judge_22 : decode cX9_judge 22 = .ok (.getfield 22, 3) := by decide +kernel
theorem dX9_judge_25 : decode cX9_judge 25 = .ok (.aload_n 0, 1) := by decide +kernel
theorem dX9_judge_26 : decode cX9_judge 26 = .ok (.getfield 10, 3) := by decide +kernel
theorem dX9_judge_29 : decode cX9_judge 29 = .ok (.iload_n 1, 1) := by decide +kernel
theorem dX9_judge_30 : decode cX9_judge 30 = .ok (.aload_n 0, 1) := by decide +kernel
theorem dX9_judge_31 : decode cX9_judge 31 = .ok (.getfield 59, 3) := by decide +kernel
theorem dX9_judge_34 : decode cX9_judge 34 = .ok (.iload_n 1, 1) := by decide +kernel
theorem dX9_judge_35 : decode cX9_judge 35 = .ok (.iaload, 1) := by decide +kernel
theorem dX9_judge_36 : decode cX9_judge 36 = .ok (.aload_n 0, 1) := by decide +kernel
theorem dX9_judge_37 : decode cX9_judge 37 = .ok (.getfield 63, 3) := by decide +kernel
theorem dX9_judge_40 : decode cX9_judge 40 = .ok (.iload_n 1, 1) := by decide +kernel
theorem dX9_judge_41 : decode cX9_judge 41 = .ok (.iaload, 1) := by decide +kernel
theorem dX9_judge_42 : decode cX9_judge 42 = .ok (.invokevirtual 270, 3) := by decide +kernel
theorem dX9_judge_45 : decode cX9_judge 45 = .ok (.ifCond .ne 7, 3) := by decide +kernel
theorem dX9_judge_48 : decode cX9_judge 48 = .ok (.iload_n 1, 1) := by decide +kernel
theorem dX9_judge_49 : decode cX9_judge 49 = .ok (.iconst 1, 1) := by decide +kernel
theorem dX9_judge_50 : decode cX9_judge 50 = .ok (.iadd, 1) := by decide +kernel
theorem dX9_judge_51 : decode cX9_judge 51 = .ok (.ireturn, 1) := by decide +kernel
theorem dX9_judge_52 : decode cX9_judge 52 = .ok (.iinc 1 1, 3) := by decide +kernel
theorem dX9_judge_55 : decode cX9_judge 55 = .ok (.goto (-42), 3) := by decide +kernel
theorem dX9_judge_58 : decode cX9_judge 58 = .ok (.aload_n 0, 1) := by decide +kernel
theorem dX9_judge_59 : decode cX9_judge 59 = .ok (.getfield 66, 3) := by decide +kernel
theorem dX9_judge_62 : decode cX9_judge 62 = .ok (.aload_n 0, 1) := by decide +kernel
theorem dX9_judge_63 : decode cX9_judge 63 = .ok (.getfield 22, 3) := by decide +kernel
theorem dX9_judge_66 : decode cX9_judge 66 = .ok (.getfield 261, 3) := by decide +kernel
theorem dX9_judge_69 : decode cX9_judge 69 = .ok (.if_icmp .ge 6, 3) := by decide +kernel
theorem dX9_judge_72 : decode cX9_judge 72 = .ok (.bipush 11, 2) := by decide +kernel
theorem dX9_judge_74 : decode cX9_judge 74 = .ok (.ireturn, 1) := by decide +kernel
theorem dX9_judge_75 : decode cX9_judge 75 = .ok (.aload_n 0, 1) := by decide +kernel
theorem dX9_judge_76 : decode cX9_judge 76 = .ok (.getfield 22, 3) := by decide +kernel
theorem dX9_judge_79 : decode cX9_judge 79 = .ok (.aload_n 0, 1) := by decide +kernel
theorem dX9_judge_80 : decode cX9_judge 80 = .ok (.getfield 10, 3) := by decide +kernel
theorem dX9_judge_83 : decode cX9_judge 83 = .ok (.aload_n 0, 1) := by decide +kernel
theorem dX9_judge_84 : decode cX9_judge 84 = .ok (.getfield 63, 3) := by decide +kernel
theorem dX9_judge_87 : decode cX9_judge 87 = .ok (.invokevirtual 274, 3) := by decide +kernel
theorem dX9_judge_90 : decode cX9_judge 90 = .ok (.istore_n 1, 1) := by decide +kernel
theorem dX9_judge_91 : decode cX9_judge 91 = .ok (.iload_n 1, 1) := by decide +kernel
theorem dX9_judge_92 : decode cX9_judge 92 = .ok (.ifCond .ne 7, 3) := by decide +kernel
theorem dX9_judge_95 : decode cX9_judge 95 = .ok (.iconst 0, 1) := by decide +kernel
theorem dX9_judge_96 : decode cX9_judge 96 = .ok (.goto 10, 3) := by decide +kernel
theorem dX9_judge_99 : decode cX9_judge 99 = .ok (.bipush 20, 2) := by decide +kernel
theorem dX9_judge_101 : decode cX9_judge 101 = .ok (.iload_n 1, 1) := by decide +kernel
theorem dX9_judge_102 : decode cX9_judge 102 = .ok (.invokestatic 278, 3) := by decide +kernel
theorem dX9_judge_105 : decode cX9_judge 105 = .ok (.iadd, 1) := by decide +kernel
theorem dX9_judge_106 : decode cX9_judge 106 = .ok (.ireturn, 1) := by decide +kernel
theorem dX9_far_0 : decode cX9_far 0 = .ok (.aload_n 0, 1) := by decide +kernel
theorem dX9_far_1 : decode cX9_far 1 = .ok (.getfield 10, 3) := by decide +kernel
theorem dX9_far_4 : decode cX9_far 4 = .ok (.iload_n 1, 1) := by decide +kernel
theorem dX9_far_5 : decode cX9_far 5 = .ok (.invokevirtual 124, 3) := by decide +kernel
theorem dX9_far_8 : decode cX9_far 8 = .ok (.ifCond .ne 5, 3) := by decide +kernel
theorem dX9_far_11 : decode cX9_far 11 = .ok (.iconst (-1), 1) := by decide +kernel
theorem dX9_far_12 : decode cX9_far 12 = .ok (.ireturn, 1) := by decide +kernel
theorem dX9_far_13 : decode cX9_far 13 = .ok (.aload_n 0, 1) := by decide +kernel
theorem dX9_far_14 : decode cX9_far 14 = .ok (.getfield 22, 3) := by decide +kernel
theorem dX9_far_17 : decode cX9_far 17 = .ok (.aload_n 0, 1) := by decide +kernel
theorem dX9_far_18 : decode cX9_far 18 = .ok (.getfield 10, 3) := by decide +kernel
theorem dX9_far_21 : decode cX9_far 21 = .ok (.iload_n 1, 1) := by decide +kernel
theorem dX9_far_22 : decode cX9_far 22 = .ok (.iload_n 2, 1) := by decide +kernel
theorem dX9_far_23 : decode cX9_far 23 = .ok (.ifCond .eq 7, 3) := by decide +kernel
theorem dX9_far_26 : decode cX9_far 26 = .ok (.iconst 1, 1) := by decide +kernel
theorem dX9_far_27 : decode cX9_far 27 = .ok (.goto 4, 3) := by decide +kernel
theorem dX9_far_30 : decode cX9_far 30 = .ok (.iconst (-1), 1) := by decide +kernel
theorem dX9_far_31 : decode cX9_far 31 = .ok (.invokevirtual 283, 3) := by decide +kernel
theorem dX9_far_34 : decode cX9_far 34 = .ok (.ireturn, 1) := by decide +kernel
theorem dX9_falls_0 : decode cX9_falls 0 = .ok (.aload_n 0, 1) := by decide +kernel
theorem dX9_falls_1 : decode cX9_falls 1 = .ok (.getfield 10, 3) := by decide +kernel
theorem dX9_falls_4 : decode cX9_falls 4 = .ok (.iload_n 1, 1) := by decide +kernel
theorem dX9_falls_5 : decode cX9_falls 5 = .ok (.invokevirtual 124, 3) := by decide +kernel
theorem dX9_falls_8 : decode cX9_falls 8 = .ok (.ifCond .eq 12, 3) := by decide +kernel
theorem dX9_falls_11 : decode cX9_falls 11 = .ok (.iload_n 2, 1) := by decide +kernel
theorem dX9_falls_12 : decode cX9_falls 12 = .ok (.iconst 1, 1) := by decide +kernel
theorem dX9_falls_13 : decode cX9_falls 13 = .ok (.iconst 2, 1) := by decide +kernel
theorem dX9_falls_14 : decode cX9_falls 14 = .ok (.invokestatic 74, 3) := by decide +kernel
theorem dX9_falls_17 : decode cX9_falls 17 = .ok (.ifCond .ne 5, 3) := by decide +kernel
theorem dX9_falls_20 : decode cX9_falls 20 = .ok (.iconst (-1), 1) := by decide +kernel
theorem dX9_falls_21 : decode cX9_falls 21 = .ok (.ireturn, 1) := by decide +kernel
theorem dX9_falls_22 : decode cX9_falls 22 = .ok (.aload_n 0, 1) := by decide +kernel
theorem dX9_falls_23 : decode cX9_falls 23 = .ok (.getfield 22, 3) := by decide +kernel
theorem dX9_falls_26 : decode cX9_falls 26 = .ok (.aload_n 0, 1) := by decide +kernel
theorem dX9_falls_27 : decode cX9_falls 27 = .ok (.getfield 10, 3) := by decide +kernel
theorem dX9_falls_30 : decode cX9_falls 30 = .ok (.iload_n 1, 1) := by decide +kernel
theorem dX9_falls_31 : decode cX9_falls 31 = .ok (.iload_n 2, 1) := by decide +kernel
theorem dX9_falls_32 : decode cX9_falls 32 = .ok (.invokevirtual 287, 3) := by decide +kernel
theorem dX9_falls_35 : decode cX9_falls 35 = .ok (.ireturn, 1) := by decide +kernel
theorem dX9_change_0 : decode cX9_change 0 = .ok (.aload_n 0, 1) := by decide +kernel
theorem dX9_change_1 : decode cX9_change 1 = .ok (.getfield 10, 3) := by decide +kernel
theorem dX9_change_4 : decode cX9_change 4 = .ok (.iload_n 1, 1) := by decide +kernel
theorem dX9_change_5 : decode cX9_change 5 = .ok (.invokevirtual 124, 3) := by decide +kernel
theorem dX9_change_8 : decode cX9_change 8 = .ok (.ifCond .eq 12, 3) := by decide +kernel
theorem dX9_change_11 : decode cX9_change 11 = .ok (.iload_n 2, 1) := by decide +kernel
theorem dX9_change_12 : decode cX9_change 12 = .ok (.iconst 0, 1) := by decide +kernel
theorem dX9_change_13 : decode cX9_change 13 = .ok (.iconst 2, 1) := by decide +kernel
theorem dX9_change_14 : decode cX9_change 14 = .ok (.invokestatic 74, 3) := by decide +kernel
theorem dX9_change_17 : decode cX9_change 17 = .ok (.ifCond .ne 5, 3) := by decide +kernel
theorem dX9_change_20 : decode cX9_change 20 = .ok (.iconst (-1), 1) := by decide +kernel
theorem dX9_change_21 : decode cX9_change 21 = .ok (.ireturn, 1) := by decide +kernel
theorem dX9_change_22 : decode cX9_change 22 = .ok (.aload_n 0, 1) := by decide +kernel
theorem dX9_change_23 : decode cX9_change 23 = .ok (.getfield 10, 3) := by decide +kernel
theorem dX9_change_26 : decode cX9_change 26 = .ok (.getfield 290, 3) := by decide +kernel
theorem dX9_change_29 : decode cX9_change 29 = .ok (.bipush 6, 2) := by decide +kernel
theorem dX9_change_31 : decode cX9_change 31 = .ok (.if_icmp .lt 6, 3) := by decide +kernel
theorem dX9_change_34 : decode cX9_change 34 = .ok (.bipush (-2), 2) := by decide +kernel
theorem dX9_change_36 : decode cX9_change 36 = .ok (.ireturn, 1) := by decide +kernel
theorem dX9_change_37 : decode cX9_change 37 = .ok (.aload_n 0, 1) := by decide +kernel
theorem dX9_change_38 : decode cX9_change 38 = .ok (.getfield 10, 3) := by decide +kernel
theorem dX9_change_41 : decode cX9_change 41 = .ok (.getfield 293, 3) := by decide +kernel
theorem dX9_change_44 : decode cX9_change 44 = .ok (.aload_n 0, 1) := by decide +kernel
theorem dX9_change_45 : decode cX9_change 45 = .ok (.getfield 10, 3) := by decide +kernel
theorem dX9_change_48 : decode cX9_change 48 = .ok (.getfield 290, 3) := by decide +kernel
theorem dX9_change_51 : decode cX9_change 51 = .ok (.iload_n 1, 1) := by decide +kernel
theorem dX9_change_52 : decode cX9_change 52 = .ok (.iastore, 1) := by decide +kernel
theorem dX9_change_53 : decode cX9_change 53 = .ok (.aload_n 0, 1) := by decide +kernel
theorem dX9_change_54 : decode cX9_change 54 = .ok (.getfield 10, 3) := by decide +kernel
theorem dX9_change_57 : decode cX9_change 57 = .ok (.getfield 296, 3) := by decide +kernel
theorem dX9_change_60 : decode cX9_change 60 = .ok (.aload_n 0, 1) := by decide +kernel
theorem dX9_change_61 : decode cX9_change 61 = .ok (.getfield 10, 3) := by decide +kernel
theorem dX9_change_64 : decode cX9_change 64 = .ok (.getfield 290, 3) := by decide +kernel
theorem dX9_change_67 : decode cX9_change 67 = .ok (.iload_n 2, 1) := by decide +kernel
theorem dX9_change_68 : decode cX9_change 68 = .ok (.iastore, 1) := by decide +kernel
theorem dX9_change_69 : decode cX9_change 69 = .ok (.aload_n 0, 1) := by decide +kernel
theorem dX9_change_70 : decode cX9_change 70 = .ok (.getfield 10, 3) := by decide +kernel
theorem dX9_change_73 : decode cX9_change 73 = .ok (.dup, 1) := by decide +kernel
theorem dX9_change_74 : decode cX9_change 74 = .ok (.getfield 290, 3) := by decide +kernel
theorem dX9_change_77 : decode cX9_change 77 = .ok (.iconst 1, 1) := by decide +kernel
theorem dX9_change_78 : decode cX9_change 78 = .ok (.iadd, 1) := by decide +kernel
theorem dX9_change_79 : decode cX9_change 79 = .ok (.putfield 290, 3) := by decide +kernel
theorem dX9_change_82 : decode cX9_change 82 = .ok (.aload_n 0, 1) := by decide +kernel
theorem dX9_change_83 : decode cX9_change 83 = .ok (.getfield 10, 3) := by decide +kernel
theorem dX9_change_86 : decode cX9_change 86 = .ok (.getfield 290, 3) := by decide +kernel
theorem dX9_change_89 : decode cX9_change 89 = .ok (.iconst 1, 1) := by decide +kernel
theorem dX9_change_90 : decode cX9_change 90 = .ok (.isub, 1) := by decide +kernel
theorem dX9_change_91 : decode cX9_change 91 = .ok (.ireturn, 1) := by decide +kernel
theorem dX9_help_0 : decode cX9_help 0 = .ok (.aload_n 0, 1) := by decide +kernel
theorem dX9_help_1 : decode cX9_help 1 = .ok (.getfield 22, 3) := by decide +kernel
theorem dX9_help_4 : decode cX9_help 4 = .ok (.aload_n 0, 1) := by decide +kernel
theorem dX9_help_5 : decode cX9_help 5 = .ok (.getfield 10, 3) := by decide +kernel
theorem dX9_help_8 : decode cX9_help 8 = .ok (.invokevirtual 299, 3) := by decide +kernel
theorem dX9_help_11 : decode cX9_help 11 = .ok (.ireturn, 1) := by decide +kernel
theorem dX9_measured_0 : decode cX9_measured 0 = .ok (.iload_n 1, 1) := by decide +kernel
theorem dX9_measured_1 : decode cX9_measured 1 = .ok (.iconst 2, 1) := by decide +kernel
theorem dX9_measured_2 : decode cX9_measured 2 = .ok (.iconst 4, 1) := by decide +kernel
theorem dX9_measured_3 : decode cX9_measured 3 = .ok (.invokestatic 74, 3) := by decide +kernel
theorem dX9_measured_6 : decode cX9_measured 6 = .ok (.ifCond .eq 13, 3) := by decide +kernel
theorem dX9_measured_9 : decode cX9_measured 9 = .ok (.iload_n 2, 1) := by decide +kernel
theorem dX9_measured_10 : decode cX9_measured 10 = .ok (.iconst (-1), 1) := by decide +kernel
theorem dX9_measured_11 : decode cX9_measured 11 = .ok (.bipush 20, 2) := by decide +kernel
theorem dX9_measured_13 : decode cX9_measured 13 = .ok (.invokestatic 74, 3) := by decide +kernel
theorem dX9_measured_16 : decode cX9_measured 16 = .ok (.ifCond .ne 6, 3) := by decide +kernel
theorem dX9_measured_19 : decode cX9_measured 19 = .ok (.bipush (-9), 2) := by decide +kernel
theorem dX9_measured_21 : decode cX9_measured 21 = .ok (.ireturn, 1) := by decide +kernel
theorem dX9_measured_22 : decode cX9_measured 22 = .ok (.aload_n 0, 1) := by decide +kernel
theorem dX9_measured_23 : decode cX9_measured 23 = .ok (.getfield 10, 3) := by decide +kernel
theorem dX9_measured_26 : decode cX9_measured 26 = .ok (.getfield 302, 3) := by decide +kernel
theorem dX9_measured_29 : decode cX9_measured 29 = .ok (.iload_n 1, 1) := by decide +kernel
theorem dX9_measured_30 : decode cX9_measured 30 = .ok (.iaload, 1) := by decide +kernel
theorem dX9_measured_31 : decode cX9_measured 31 = .ok (.istore_n 3, 1) := by decide +kernel
theorem dX9_measured_32 : decode cX9_measured 32 = .ok (.aload_n 0, 1) := by decide +kernel
theorem dX9_measured_33 : decode cX9_measured 33 = .ok (.getfield 10, 3) := by decide +kernel
theorem dX9_measured_36 : decode cX9_measured 36 = .ok (.getfield 302, 3) := by decide +kernel
theorem dX9_measured_39 : decode cX9_measured 39 = .ok (.iload_n 1, 1) := by decide +kernel
theorem dX9_measured_40 : decode cX9_measured 40 = .ok (.iload_n 2, 1) := by decide +kernel
theorem dX9_measured_41 : decode cX9_measured 41 = .ok (.iastore, 1) := by decide +kernel
theorem dX9_measured_42 : decode cX9_measured 42 = .ok (.iload_n 3, 1) := by decide +kernel
theorem dX9_measured_43 : decode cX9_measured 43 = .ok (.ireturn, 1) := by decide +kernel
theorem dX9_which_0 : decode cX9_which 0 = .ok (.aload_n 0, 1) := by decide +kernel
theorem dX9_which_1 : decode cX9_which 1 = .ok (.getfield 22, 3) := by decide +kernel
theorem dX9_which_4 : decode cX9_which 4 = .ok (.aload_n 0, 1) := by decide +kernel
theorem dX9_which_5 : decode cX9_which 5 = .ok (.getfield 10, 3) := by decide +kernel
theorem dX9_which_8 : decode cX9_which 8 = .ok (.invokevirtual 305, 3) := by decide +kernel
theorem dX9_which_11 : decode cX9_which 11 = .ok (.ireturn, 1) := by decide +kernel
theorem dX9_sheet_0 : decode cX9_sheet 0 = .ok (.iload_n 1, 1) := by decide +kernel
theorem dX9_sheet_1 : decode cX9_sheet 1 = .ok (.iconst 0, 1) := by decide +kernel
theorem dX9_sheet_2 : decode cX9_sheet 2 = .ok (.iconst 3, 1) := by decide +kernel
theorem dX9_sheet_3 : decode cX9_sheet 3 = .ok (.invokestatic 74, 3) := by decide +kernel
theorem dX9_sheet_6 : decode cX9_sheet 6 = .ok (.ifCond .eq 12, 3) := by decide +kernel
theorem dX9_sheet_9 : decode cX9_sheet 9 = .ok (.iload_n 2, 1) := by decide +kernel
theorem dX9_sheet_10 : decode cX9_sheet 10 = .ok (.iconst (-1), 1) := by decide +kernel
theorem dX9_sheet_11 : decode cX9_sheet 11 = .ok (.iconst 3, 1) := by decide +kernel
theorem dX9_sheet_12 : decode cX9_sheet 12 = .ok (.invokestatic 74, 3) := by decide +kernel
theorem dX9_sheet_15 : decode cX9_sheet 15 = .ok (.ifCond .ne 5, 3) := by decide +kernel
theorem dX9_sheet_18 : decode cX9_sheet 18 = .ok (.iconst (-1), 1) := by decide +kernel
theorem dX9_sheet_19 : decode cX9_sheet 19 = .ok (.ireturn, 1) := by decide +kernel
theorem dX9_sheet_20 : decode cX9_sheet 20 = .ok (.iload_n 2, 1) := by decide +kernel
theorem dX9_sheet_21 : decode cX9_sheet 21 = .ok (.ifCond .lt 11, 3) := by decide +kernel
theorem dX9_sheet_24 : decode cX9_sheet 24 = .ok (.iload_n 3, 1) := by decide +kernel
theorem dX9_sheet_25 : decode cX9_sheet 25 = .ok (.bipush 40, 2) := by decide +kernel
theorem dX9_sheet_27 : decode cX9_sheet 27 = .ok (.if_icmp .le 5, 3) := by decide +kernel
theorem dX9_sheet_30 : decode cX9_sheet 30 = .ok (.iconst (-1), 1) := by decide +kernel
theorem dX9_sheet_31 : decode cX9_sheet 31 = .ok (.ireturn, 1) := by decide +kernel
theorem dX9_sheet_32 : decode cX9_sheet 32 = .ok (.iload_n 2, 1) := by decide +kernel
theorem dX9_sheet_33 : decode cX9_sheet 33 = .ok (.ifCond .lt 10, 3) := by decide +kernel
theorem dX9_sheet_36 : decode cX9_sheet 36 = .ok (.iload_n 3, 1) := by decide +kernel
theorem dX9_sheet_37 : decode cX9_sheet 37 = .ok (.ifCond .ge 6, 3) := by decide +kernel
theorem dX9_sheet_40 : decode cX9_sheet 40 = .ok (.bipush (-14), 2) := by decide +kernel
theorem dX9_sheet_42 : decode cX9_sheet 42 = .ok (.ireturn, 1) := by decide +kernel
theorem dX9_sheet_43 : decode cX9_sheet 43 = .ok (.aload_n 0, 1) := by decide +kernel
theorem dX9_sheet_44 : decode cX9_sheet 44 = .ok (.getfield 48, 3) := by decide +kernel
theorem dX9_sheet_47 : decode cX9_sheet 47 = .ok (.iload_n 1, 1) := by decide +kernel
theorem dX9_sheet_48 : decode cX9_sheet 48 = .ok (.iload_n 2, 1) := by decide +kernel
theorem dX9_sheet_49 : decode cX9_sheet 49 = .ok (.iload_n 3, 1) := by decide +kernel
theorem dX9_sheet_50 : decode cX9_sheet 50 = .ok (.invokevirtual 308, 3) := by decide +kernel
theorem dX9_sheet_53 : decode cX9_sheet 53 = .ok (.iconst 1, 1) := by decide +kernel
theorem dX9_sheet_54 : decode cX9_sheet 54 = .ok (.ireturn, 1) := by decide +kernel
theorem dX9_put_0 : decode cX9_put 0 = .ok (.iload_n 1, 1) := by decide +kernel
theorem dX9_put_1 : decode cX9_put 1 = .ok (.iconst 0, 1) := by decide +kernel
theorem dX9_put_2 : decode cX9_put 2 = .ok (.iconst 3, 1) := by decide +kernel
theorem dX9_put_3 : decode cX9_put 3 = .ok (.invokestatic 74, 3) := by decide +kernel
theorem dX9_put_6 : decode cX9_put 6 = .ok (.ifCond .ne 5, 3) := by decide +kernel
theorem dX9_put_9 : decode cX9_put 9 = .ok (.iconst (-1), 1) := by decide +kernel
theorem dX9_put_10 : decode cX9_put 10 = .ok (.ireturn, 1) := by decide +kernel
theorem dX9_put_11 : decode cX9_put 11 = .ok (.aload_n 0, 1) := by decide +kernel
theorem dX9_put_12 : decode cX9_put 12 = .ok (.getfield 48, 3) := by decide +kernel
theorem dX9_put_15 : decode cX9_put 15 = .ok (.getfield 312, 3) := by decide +kernel
theorem dX9_put_18 : decode cX9_put 18 = .ok (.iload_n 1, 1) := by decide +kernel
theorem dX9_put_19 : decode cX9_put 19 = .ok (.iaload, 1) := by decide +kernel
theorem dX9_put_20 : decode cX9_put 20 = .ok (.ifCond .ge 6, 3) := by decide +kernel
theorem dX9_put_23 : decode cX9_put 23 = .ok (.bipush (-11), 2) := by decide +kernel
theorem dX9_put_25 : decode cX9_put 25 = .ok (.ireturn, 1) := by decide +kernel
theorem dX9_put_26 : decode cX9_put 26 = .ok (.aload_n 0, 1) := by decide +kernel
theorem dX9_put_27 : decode cX9_put 27 = .ok (.getfield 48, 3) := by decide +kernel
theorem dX9_put_30 : decode cX9_put 30 = .ok (.iload_n 1, 1) := by decide +kernel
theorem dX9_put_31 : decode cX9_put 31 = .ok (.iload_n 2, 1) := by decide +kernel
theorem dX9_put_32 : decode cX9_put 32 = .ok (.invokevirtual 315, 3) := by decide +kernel
theorem dX9_put_35 : decode cX9_put 35 = .ok (.ifCond .ne 6, 3) := by decide +kernel
theorem dX9_put_38 : decode cX9_put 38 = .ok (.bipush (-12), 2) := by decide +kernel
theorem dX9_put_40 : decode cX9_put 40 = .ok (.ireturn, 1) := by decide +kernel
theorem dX9_put_41 : decode cX9_put 41 = .ok (.aload_n 0, 1) := by decide +kernel
theorem dX9_put_42 : decode cX9_put 42 = .ok (.getfield 48, 3) := by decide +kernel
theorem dX9_put_45 : decode cX9_put 45 = .ok (.iload_n 1, 1) := by decide +kernel
theorem dX9_put_46 : decode cX9_put 46 = .ok (.iload_n 2, 1) := by decide +kernel
theorem dX9_put_47 : decode cX9_put 47 = .ok (.iload_n 3, 1) := by decide +kernel
theorem dX9_put_48 : decode cX9_put 48 = .ok (.invokevirtual 318, 3) := by decide +kernel
theorem dX9_put_51 : decode cX9_put 51 = .ok (.iconst 1, 1) := by decide +kernel
theorem dX9_put_52 : decode cX9_put 52 = .ok (.ireturn, 1) := by decide +kernel
theorem dX9_item_0 : decode cX9_item 0 = .ok (.iload_n 1, 1) := by decide +kernel
theorem dX9_item_1 : decode cX9_item 1 = .ok (.iconst 0, 1) := by decide +kernel
theorem dX9_item_2 : decode cX9_item 2 = .ok (.iconst 3, 1) := by decide +kernel
theorem dX9_item_3 : decode cX9_item 3 = .ok (.invokestatic 74, 3) := by decide +kernel
theorem dX9_item_6 : decode cX9_item 6 = .ok (.ifCond .eq 12, 3) := by decide +kernel
theorem dX9_item_9 : decode cX9_item 9 = .ok (.iload_n 2, 1) := by decide +kernel
theorem dX9_item_10 : decode cX9_item 10 = .ok (.iconst 0, 1) := by decide +kernel
theorem dX9_item_11 : decode cX9_item 11 = .ok (.iconst 3, 1) := by decide +kernel
theorem dX9_item_12 : decode cX9_item 12 = .ok (.invokestatic 74, 3) := by decide +kernel
theorem dX9_item_15 : decode cX9_item 15 = .ok (.ifCond .ne 5, 3) := by decide +kernel
theorem dX9_item_18 : decode cX9_item 18 = .ok (.iconst (-1), 1) := by decide +kernel
theorem dX9_item_19 : decode cX9_item 19 = .ok (.ireturn, 1) := by decide +kernel
theorem dX9_item_20 : decode cX9_item 20 = .ok (.aload_n 0, 1) := by decide +kernel
theorem dX9_item_21 : decode cX9_item 21 = .ok (.getfield 48, 3) := by decide +kernel
theorem dX9_item_24 : decode cX9_item 24 = .ok (.iload_n 1, 1) := by decide +kernel
theorem dX9_item_25 : decode cX9_item 25 = .ok (.iload_n 2, 1) := by decide +kernel
theorem dX9_item_26 : decode cX9_item 26 = .ok (.invokevirtual 78, 3) := by decide +kernel
theorem dX9_item_29 : decode cX9_item 29 = .ok (.istore 4, 2) := by decide +kernel
theorem dX9_item_31 : decode cX9_item 31 = .ok (.iload 4, 2) := by decide +kernel
theorem dX9_item_33 : decode cX9_item 33 = .ok (.ifCond .eq 6, 3) := by decide +kernel
theorem dX9_item_36 : decode cX9_item 36 = .ok (.iload 4, 2) := by decide +kernel
theorem dX9_item_38 : decode cX9_item 38 = .ok (.ireturn, 1) := by decide +kernel
theorem dX9_item_39 : decode cX9_item 39 = .ok (.aload_n 0, 1) := by decide +kernel
theorem dX9_item_40 : decode cX9_item 40 = .ok (.getfield 48, 3) := by decide +kernel
theorem dX9_item_43 : decode cX9_item 43 = .ok (.iload_n 1, 1) := by decide +kernel
theorem dX9_item_44 : decode cX9_item 44 = .ok (.iload_n 3, 1) := by decide +kernel
theorem dX9_item_45 : decode cX9_item 45 = .ok (.invokevirtual 315, 3) := by decide +kernel
theorem dX9_item_48 : decode cX9_item 48 = .ok (.ifCond .ne 6, 3) := by decide +kernel
theorem dX9_item_51 : decode cX9_item 51 = .ok (.bipush (-12), 2) := by decide +kernel
theorem dX9_item_53 : decode cX9_item 53 = .ok (.ireturn, 1) := by decide +kernel
theorem dX9_item_54 : decode cX9_item 54 = .ok (.aload_n 0, 1) := by decide +kernel
theorem dX9_item_55 : decode cX9_item 55 = .ok (.getfield 48, 3) := by decide +kernel
theorem dX9_item_58 : decode cX9_item 58 = .ok (.iload_n 1, 1) := by decide +kernel
theorem dX9_item_59 : decode cX9_item 59 = .ok (.iload_n 3, 1) := by decide +kernel
theorem dX9_item_60 : decode cX9_item 60 = .ok (.invokevirtual 92, 3) := by decide +kernel
theorem dX9_item_63 : decode cX9_item 63 = .ok (.ireturn, 1) := by decide +kernel
theorem dX9_sizes_0 : decode cX9_sizes 0 = .ok (.iload_n 2, 1) := by decide +kernel
theorem dX9_sizes_1 : decode cX9_sizes 1 = .ok (.iconst 0, 1) := by decide +kernel
theorem dX9_sizes_2 : decode cX9_sizes 2 = .ok (.iconst 3, 1) := by decide +kernel
theorem dX9_sizes_3 : decode cX9_sizes 3 = .ok (.invokestatic 74, 3) := by decide +kernel
theorem dX9_sizes_6 : decode cX9_sizes 6 = .ok (.ifCond .eq 25, 3) := by decide +kernel
theorem dX9_sizes_9 : decode cX9_sizes 9 = .ok (.aload_n 0, 1) := by decide +kernel
theorem dX9_sizes_10 : decode cX9_sizes 10 = .ok (.getfield 10, 3) := by decide +kernel
theorem dX9_sizes_13 : decode cX9_sizes 13 = .ok (.iload_n 1, 1) := by decide +kernel
theorem dX9_sizes_14 : decode cX9_sizes 14 = .ok (.invokevirtual 124, 3) := by decide +kernel
theorem dX9_sizes_17 : decode cX9_sizes 17 = .ok (.ifCond .eq 14, 3) := by decide +kernel
theorem dX9_sizes_20 : decode cX9_sizes 20 = .ok (.iload 4, 2) := by decide +kernel
theorem dX9_sizes_22 : decode cX9_sizes 22 = .ok (.iconst 0, 1) := by decide +kernel
theorem dX9_sizes_23 : decode cX9_sizes 23 = .ok (.bipush 10, 2) := by decide +kernel
theorem dX9_sizes_25 : decode cX9_sizes 25 = .ok (.invokestatic 74, 3) := by decide +kernel
theorem dX9_sizes_28 : decode cX9_sizes 28 = .ok (.ifCond .ne 5, 3) := by decide +kernel
theorem dX9_sizes_31 : decode cX9_sizes 31 = .ok (.iconst (-1), 1) := by decide +kernel
theorem dX9_sizes_32 : decode cX9_sizes 32 = .ok (.ireturn, 1) := by decide +kernel
theorem dX9_sizes_33 : decode cX9_sizes 33 = .ok (.aload_n 0, 1) := by decide +kernel
theorem dX9_sizes_34 : decode cX9_sizes 34 = .ok (.getfield 48, 3) := by decide +kernel
theorem dX9_sizes_37 : decode cX9_sizes 37 = .ok (.iload_n 2, 1) := by decide +kernel
theorem dX9_sizes_38 : decode cX9_sizes 38 = .ok (.iconst 1, 1) := by decide +kernel
theorem dX9_sizes_39 : decode cX9_sizes 39 = .ok (.invokevirtual 78, 3) := by decide +kernel
theorem dX9_sizes_42 : decode cX9_sizes 42 = .ok (.istore 5, 2) := by decide +kernel
theorem dX9_sizes_44 : decode cX9_sizes 44 = .ok (.iload 5, 2) := by decide +kernel
theorem dX9_sizes_46 : decode cX9_sizes 46 = .ok (.ifCond .eq 6, 3) := by decide +kernel
theorem dX9_sizes_49 : decode cX9_sizes 49 = .ok (.iload 5, 2) := by decide +kernel
theorem dX9_sizes_51 : decode cX9_sizes 51 = .ok (.ireturn, 1) := by decide +kernel
theorem dX9_sizes_52 : decode cX9_sizes 52 = .ok (.iconst 0, 1) := by decide +kernel
theorem dX9_sizes_53 : decode cX9_sizes 53 = .ok (.istore 6, 2) := by decide +kernel
theorem dX9_sizes_55 : decode cX9_sizes 55 = .ok (.iconst 0, 1) := by decide +kernel
theorem dX9_sizes_56 : decode cX9_sizes 56 = .ok (.istore 7, 2) := by decide +kernel
theorem dX9_sizes_58 : decode cX9_sizes 58 = .ok (.iload 7, 2) := by decide +kernel
theorem dX9_sizes_60 : decode cX9_sizes 60 = .ok (.iload 4, 2) := by decide +kernel
theorem dX9_sizes_62 : decode cX9_sizes 62 = .ok (.if_icmp .ge 86, 3) := by decide +kernel
theorem dX9_sizes_65 : decode cX9_sizes 65 = .ok (.aload_n 0, 1) := by decide +kernel
theorem dX9_sizes_66 : decode cX9_sizes 66 = .ok (.getfield 48, 3) := by decide +kernel
theorem dX9_sizes_69 : decode cX9_sizes 69 = .ok (.iload_n 2, 1) := by decide +kernel
theorem dX9_sizes_70 : decode cX9_sizes 70 = .ok (.iload_n 3, 1) := by decide +kernel
theorem dX9_sizes_71 : decode cX9_sizes 71 = .ok (.iload 7, 2) := by decide +kernel
theorem dX9_sizes_73 : decode cX9_sizes 73 = .ok (.iadd, 1) := by decide +kernel
theorem dX9_sizes_74 : decode cX9_sizes 74 = .ok (.invokevirtual 315, 3) := by decide +kernel
theorem dX9_sizes_77 : decode cX9_sizes 77 = .ok (.ifCond .ne 6, 3) := by decide +kernel
theorem dX9_sizes_80 : decode cX9_sizes 80 = .ok (.bipush (-12), 2) := by decide +kernel
theorem dX9_sizes_82 : decode cX9_sizes 82 = .ok (.ireturn, 1) := by decide +kernel
theorem dX9_sizes_83 : decode cX9_sizes 83 = .ok (.aload_n 0, 1) := by decide +kernel
theorem dX9_sizes_84 : decode cX9_sizes 84 = .ok (.getfield 48, 3) := by decide +kernel
theorem dX9_sizes_87 : decode cX9_sizes 87 = .ok (.iload_n 2, 1) := by decide +kernel
theorem dX9_sizes_88 : decode cX9_sizes 88 = .ok (.iload_n 3, 1) := by decide +kernel
theorem dX9_sizes_89 : decode cX9_sizes 89 = .ok (.iload 7, 2) := by decide +kernel
theorem dX9_sizes_91 : decode cX9_sizes 91 = .ok (.iadd, 1) := by decide +kernel
theorem dX9_sizes_92 : decode cX9_sizes 92 = .ok (.invokevirtual 92, 3) := by decide +kernel
theorem dX9_sizes_95 : decode cX9_sizes 95 = .ok (.istore 8, 2) := by decide +kernel
theorem dX9_sizes_97 : decode cX9_sizes 97 = .ok (.iload 8, 2) := by decide +kernel
theorem dX9_sizes_99 : decode cX9_sizes 99 = .ok (.iconst 1, 1) := by decide +kernel
theorem dX9_sizes_100 : decode cX9_sizes 100 = .ok (.bipush 9, 2) := by decide +kernel
theorem dX9_sizes_102 : decode cX9_sizes 102 = .ok (.invokestatic 74, 3) := by decide +kernel
theorem dX9_sizes_105 : decode cX9_sizes 105 = .ok (.ifCond .eq 37, 3) := by decide +kernel
theorem dX9_sizes_108 : decode cX9_sizes 108 = .ok (.aload_n 0, 1) := by decide +kernel
theorem dX9_sizes_109 : decode cX9_sizes 109 = .ok (.getfield 10, 3) := by decide +kernel
theorem dX9_sizes_112 : decode cX9_sizes 112 = .ok (.iload_n 1, 1) := by decide +kernel
theorem dX9_sizes_113 : decode cX9_sizes 113 = .ok (.iload 7, 2) := by decide +kernel
theorem dX9_sizes_115 : decode cX9_sizes 115 = .ok (.iadd, 1) := by decide +kernel
theorem dX9_sizes_116 : decode cX9_sizes 116 = .ok (.invokevirtual 124, 3) := by decide +kernel
theorem dX9_sizes_119 : decode cX9_sizes 119 = .ok (.ifCond .eq 23, 3) := by decide +kernel
theorem dX9_sizes_122 : decode cX9_sizes 122 = .ok (.aload_n 0, 1) := by decide +kernel
theorem dX9_sizes_123 : decode cX9_sizes 123 = .ok (.getfield 10, 3) := by decide +kernel
theorem dX9_sizes_126 : decode cX9_sizes 126 = .ok (.getfield 114, 3) := by decide +kernel
theorem dX9_sizes_129 : decode cX9_sizes 129 = .ok (.iload_n 1, 1) := by decide +kernel
theorem dX9_sizes_130 : decode cX9_sizes 130 = .ok (.iload 7, 2) := by decide +kernel
theorem dX9_sizes_132 : decode cX9_sizes 132 = .ok (.iadd, 1) := by decide +kernel
theorem dX9_sizes_133 : decode cX9_sizes 133 = .ok (.aaload, 1) := by decide +kernel
theorem dX9_sizes_134 : decode cX9_sizes 134 = .ok (.iload 8, 2) := by decide +kernel
theorem dX9_sizes_136 : decode cX9_sizes 136 = .ok (.putfield 131, 3) := by decide +kernel
theorem dX9_sizes_139 : decode cX9_sizes 139 = .ok (.iinc 6 1, 3) := by decide +kernel
theorem dX9_sizes_142 : decode cX9_sizes 142 = .ok (.iinc 7 1, 3) := by decide +kernel
theorem dX9_sizes_145 : decode cX9_sizes 145 = .ok (.goto (-87), 3) := by decide +kernel
theorem dX9_sizes_148 : decode cX9_sizes 148 = .ok (.iload 6, 2) := by decide +kernel
theorem dX9_sizes_150 : decode cX9_sizes 150 = .ok (.ireturn, 1) := by decide +kernel
theorem dX9_shelf_0 : decode cX9_shelf 0 = .ok (.iload_n 1, 1) := by decide +kernel
theorem dX9_shelf_1 : decode cX9_shelf 1 = .ok (.iconst 0, 1) := by decide +kernel
theorem dX9_shelf_2 : decode cX9_shelf 2 = .ok (.iconst 3, 1) := by decide +kernel
theorem dX9_shelf_3 : decode cX9_shelf 3 = .ok (.invokestatic 74, 3) := by decide +kernel
theorem dX9_shelf_6 : decode cX9_shelf 6 = .ok (.ifCond .eq 12, 3) := by decide +kernel
theorem dX9_shelf_9 : decode cX9_shelf 9 = .ok (.iload_n 2, 1) := by decide +kernel
theorem dX9_shelf_10 : decode cX9_shelf 10 = .ok (.iconst 0, 1) := by decide +kernel
theorem dX9_shelf_11 : decode cX9_shelf 11 = .ok (.iconst 2, 1) := by decide +kernel
theorem dX9_shelf_12 : decode cX9_shelf 12 = .ok (.invokestatic 74, 3) := by decide +kernel
theorem dX9_shelf_15 : decode cX9_shelf 15 = .ok (.ifCond .ne 5, 3) := by decide +kernel
theorem dX9_shelf_18 : decode cX9_shelf 18 = .ok (.iconst (-1), 1) := by decide +kernel
theorem dX9_shelf_19 : decode cX9_shelf 19 = .ok (.ireturn, 1) := by decide +kernel
theorem dX9_shelf_20 : decode cX9_shelf 20 = .ok (.iload_n 2, 1) := by decide +kernel
theorem dX9_shelf_21 : decode cX9_shelf 21 = .ok (.ifCond .ne 16, 3) := by decide +kernel
theorem dX9_shelf_24 : decode cX9_shelf 24 = .ok (.aload_n 0, 1) := by decide +kernel
theorem dX9_shelf_25 : decode cX9_shelf 25 = .ok (.getfield 10, 3) := by decide +kernel
theorem dX9_shelf_28 : decode cX9_shelf 28 = .ok (.iload_n 3, 1) := by decide +kernel
theorem dX9_shelf_29 : decode cX9_shelf 29 = .ok (.invokevirtual 124, 3) := by decide +kernel
theorem dX9_shelf_32 : decode cX9_shelf 32 = .ok (.ifCond .ne 5, 3) := by decide +kernel
theorem dX9_shelf_35 : decode cX9_shelf 35 = .ok (.iconst (-1), 1) := by decide +kernel
theorem dX9_shelf_36 : decode cX9_shelf 36 = .ok (.ireturn, 1) := by decide +kernel
theorem dX9_shelf_37 : decode cX9_shelf 37 = .ok (.iload_n 2, 1) := by decide +kernel
theorem dX9_shelf_38 : decode cX9_shelf 38 = .ok (.iconst 1, 1) := by decide +kernel
theorem dX9_shelf_39 : decode cX9_shelf 39 = .ok (.if_icmp .ne 14, 3) := by decide +kernel
theorem dX9_shelf_42 : decode cX9_shelf 42 = .ok (.iload_n 3, 1) := by decide +kernel
theorem dX9_shelf_43 : decode cX9_shelf 43 = .ok (.iconst 0, 1) := by decide +kernel
theorem dX9_shelf_44 : decode cX9_shelf 44 = .ok (.iconst 3, 1) := by decide +kernel
theorem dX9_shelf_45 : decode cX9_shelf 45 = .ok (.invokestatic 74, 3) := by decide +kernel
theorem dX9_shelf_48 : decode cX9_shelf 48 = .ok (.ifCond .ne 5, 3) := by decide +kernel
theorem dX9_shelf_51 : decode cX9_shelf 51 = .ok (.iconst (-1), 1) := by decide +kernel
theorem dX9_shelf_52 : decode cX9_shelf 52 = .ok (.ireturn, 1) := by decide +kernel
theorem dX9_shelf_53 : decode cX9_shelf 53 = .ok (.iload_n 2, 1) := by decide +kernel
theorem dX9_shelf_54 : decode cX9_shelf 54 = .ok (.ifCond .ne 15, 3) := by decide +kernel
theorem dX9_shelf_57 : decode cX9_shelf 57 = .ok (.aload_n 0, 1) := by decide +kernel
theorem dX9_shelf_58 : decode cX9_shelf 58 = .ok (.getfield 48, 3) := by decide +kernel
theorem dX9_shelf_61 : decode cX9_shelf 61 = .ok (.iload_n 1, 1) := by decide +kernel
theorem dX9_shelf_62 : decode cX9_shelf 62 = .ok (.iload_n 3, 1) := by decide +kernel
theorem dX9_shelf_63 : decode cX9_shelf 63 = .ok (.invokevirtual 321, 3) := by decide +kernel
theorem dX9_shelf_66 : decode cX9_shelf 66 = .ok (.goto 28, 3) := by decide +kernel
theorem dX9_shelf_69 : decode cX9_shelf 69 = .ok (.iload_n 2, 1) := by decide +kernel
theorem dX9_shelf_70 : decode cX9_shelf 70 = .ok (.iconst 1, 1) := by decide +kernel
theorem dX9_shelf_71 : decode cX9_shelf 71 = .ok (.if_icmp .ne 15, 3) := by decide +kernel
theorem dX9_shelf_74 : decode cX9_shelf 74 = .ok (.aload_n 0, 1) := by decide +kernel
theorem dX9_shelf_75 : decode cX9_shelf 75 = .ok (.getfield 48, 3) := by decide +kernel
theorem dX9_shelf_78 : decode cX9_shelf 78 = .ok (.iload_n 1, 1) := by decide +kernel
theorem dX9_shelf_79 : decode cX9_shelf 79 = .ok (.iload_n 3, 1) := by decide +kernel
theorem dX9_shelf_80 : decode cX9_shelf 80 = .ok (.invokevirtual 325, 3) := by decide +kernel
theorem dX9_shelf_83 : decode cX9_shelf 83 = .ok (.goto 11, 3) := by decide +kernel
theorem dX9_shelf_86 : decode cX9_shelf 86 = .ok (.aload_n 0, 1) := by decide +kernel
theorem dX9_shelf_87 : decode cX9_shelf 87 = .ok (.getfield 48, 3) := by decide +kernel
theorem dX9_shelf_90 : decode cX9_shelf 90 = .ok (.iload_n 1, 1) := by decide +kernel
theorem dX9_shelf_91 : decode cX9_shelf 91 = .ok (.invokevirtual 328, 3) := by decide +kernel
theorem dX9_shelf_94 : decode cX9_shelf 94 = .ok (.iconst 1, 1) := by decide +kernel
theorem dX9_shelf_95 : decode cX9_shelf 95 = .ok (.ireturn, 1) := by decide +kernel
theorem dX9_taken_0 : decode cX9_taken 0 = .ok (.iload_n 1, 1) := by decide +kernel
theorem dX9_taken_1 : decode cX9_taken 1 = .ok (.iconst 0, 1) := by decide +kernel
theorem dX9_taken_2 : decode cX9_taken 2 = .ok (.iconst 3, 1) := by decide +kernel
theorem dX9_taken_3 : decode cX9_taken 3 = .ok (.invokestatic 74, 3) := by decide +kernel
theorem dX9_taken_6 : decode cX9_taken 6 = .ok (.ifCond .eq 24, 3) := by decide +kernel
theorem dX9_taken_9 : decode cX9_taken 9 = .ok (.iload_n 2, 1) := by decide +kernel
theorem dX9_taken_10 : decode cX9_taken 10 = .ok (.iconst 0, 1) := by decide +kernel
theorem dX9_taken_11 : decode cX9_taken 11 = .ok (.bipush 6, 2) := by decide +kernel
theorem dX9_taken_13 : decode cX9_taken 13 = .ok (.invokestatic 74, 3) := by decide +kernel
theorem dX9_taken_16 : decode cX9_taken 16 = .ok (.ifCond .ne 16, 3) := by decide +kernel
theorem dX9_taken_19 : decode cX9_taken 19 = .ok (.iload_n 2, 1) := by decide +kernel
theorem dX9_taken_20 : decode cX9_taken 20 = .ok (.bipush 10, 2) := by decide +kernel
theorem dX9_taken_22 : decode cX9_taken 22 = .ok (.bipush 13, 2) := by decide +kernel
theorem dX9_taken_24 : decode cX9_taken 24 = .ok (.invokestatic 74, 3) := by decide +kernel
theorem dX9_taken_27 : decode cX9_taken 27 = .ok (.ifCond .ne 5, 3) := by decide +kernel
theorem dX9_taken_30 : decode cX9_taken 30 = .ok (.iconst (-1), 1) := by decide +kernel
theorem dX9_taken_31 : decode cX9_taken 31 = .ok (.ireturn, 1) := by decide +kernel
theorem dX9_taken_32 : decode cX9_taken 32 = .ok (.aload_n 0, 1) := by decide +kernel
theorem dX9_taken_33 : decode cX9_taken 33 = .ok (.getfield 48, 3) := by decide +kernel
theorem dX9_taken_36 : decode cX9_taken 36 = .ok (.iload_n 1, 1) := by decide +kernel
theorem dX9_taken_37 : decode cX9_taken 37 = .ok (.invokevirtual 331, 3) := by decide +kernel
theorem dX9_taken_40 : decode cX9_taken 40 = .ok (.ifCond .eq 34, 3) := by decide +kernel
theorem dX9_taken_43 : decode cX9_taken 43 = .ok (.iload_n 2, 1) := by decide +kernel
theorem dX9_taken_44 : decode cX9_taken 44 = .ok (.bipush 10, 2) := by decide +kernel
theorem dX9_taken_46 : decode cX9_taken 46 = .ok (.aload_n 0, 1) := by decide +kernel
theorem dX9_taken_47 : decode cX9_taken 47 = .ok (.getfield 48, 3) := by decide +kernel
theorem dX9_taken_50 : decode cX9_taken 50 = .ok (.getfield 334, 3) := by decide +kernel
theorem dX9_taken_53 : decode cX9_taken 53 = .ok (.iload_n 1, 1) := by decide +kernel
theorem dX9_taken_54 : decode cX9_taken 54 = .ok (.iaload, 1) := by decide +kernel
theorem dX9_taken_55 : decode cX9_taken 55 = .ok (.iadd, 1) := by decide +kernel
theorem dX9_taken_56 : decode cX9_taken 56 = .ok (.if_icmp .ne 15, 3) := by decide +kernel
theorem dX9_taken_59 : decode cX9_taken 59 = .ok (.aload_n 0, 1) := by decide +kernel
theorem dX9_taken_60 : decode cX9_taken 60 = .ok (.getfield 48, 3) := by decide +kernel
theorem dX9_taken_63 : decode cX9_taken 63 = .ok (.getfield 337, 3) := by decide +kernel
theorem dX9_taken_66 : decode cX9_taken 66 = .ok (.iload_n 1, 1) := by decide +kernel
theorem dX9_taken_67 : decode cX9_taken 67 = .ok (.iaload, 1) := by decide +kernel
theorem dX9_taken_68 : decode cX9_taken 68 = .ok (.goto 5, 3) := by decide +kernel
theorem dX9_taken_71 : decode cX9_taken 71 = .ok (.bipush (-13), 2) := by decide +kernel
theorem dX9_taken_73 : decode cX9_taken 73 = .ok (.ireturn, 1) := by decide +kernel
theorem dX9_taken_74 : decode cX9_taken 74 = .ok (.aload_n 0, 1) := by decide +kernel
theorem dX9_taken_75 : decode cX9_taken 75 = .ok (.getfield 48, 3) := by decide +kernel
theorem dX9_taken_78 : decode cX9_taken 78 = .ok (.getfield 340, 3) := by decide +kernel
theorem dX9_taken_81 : decode cX9_taken 81 = .ok (.iload_n 1, 1) := by decide +kernel
theorem dX9_taken_82 : decode cX9_taken 82 = .ok (.iaload, 1) := by decide +kernel
theorem dX9_taken_83 : decode cX9_taken 83 = .ok (.istore_n 3, 1) := by decide +kernel
theorem dX9_taken_84 : decode cX9_taken 84 = .ok (.aload_n 0, 1) := by decide +kernel
theorem dX9_taken_85 : decode cX9_taken 85 = .ok (.getfield 10, 3) := by decide +kernel
theorem dX9_taken_88 : decode cX9_taken 88 = .ok (.iload_n 3, 1) := by decide +kernel
theorem dX9_taken_89 : decode cX9_taken 89 = .ok (.invokevirtual 124, 3) := by decide +kernel
theorem dX9_taken_92 : decode cX9_taken 92 = .ok (.ifCond .ne 6, 3) := by decide +kernel
theorem dX9_taken_95 : decode cX9_taken 95 = .ok (.bipush (-11), 2) := by decide +kernel
theorem dX9_taken_97 : decode cX9_taken 97 = .ok (.ireturn, 1) := by decide +kernel
theorem dX9_taken_98 : decode cX9_taken 98 = .ok (.iload_n 2, 1) := by decide +kernel
theorem dX9_taken_99 : decode cX9_taken 99 = .ok (.bipush 6, 2) := by decide +kernel
theorem dX9_taken_101 : decode cX9_taken 101 = .ok (.if_icmp .gt 30, 3) := by decide +kernel
theorem dX9_taken_104 : decode cX9_taken 104 = .ok (.aload_n 0, 1) := by decide +kernel
theorem dX9_taken_105 : decode cX9_taken 105 = .ok (.getfield 55, 3) := by decide +kernel
theorem dX9_taken_108 : decode cX9_taken 108 = .ok (.aload_n 0, 1) := by decide +kernel
theorem dX9_taken_109 : decode cX9_taken 109 = .ok (.getfield 10, 3) := by decide +kernel
theorem dX9_taken_112 : decode cX9_taken 112 = .ok (.getfield 114, 3) := by decide +kernel
theorem dX9_taken_115 : decode cX9_taken 115 = .ok (.iload_n 3, 1) := by decide +kernel
theorem dX9_taken_116 : decode cX9_taken 116 = .ok (.aaload, 1) := by decide +kernel
theorem dX9_taken_117 : decode cX9_taken 117 = .ok (.invokevirtual 343, 3) := by decide +kernel
theorem dX9_taken_120 : decode cX9_taken 120 = .ok (.iload_n 2, 1) := by decide +kernel
theorem dX9_taken_121 : decode cX9_taken 121 = .ok (.invokevirtual 346, 3) := by decide +kernel
theorem dX9_taken_124 : decode cX9_taken 124 = .ok (.ifCond .eq 7, 3) := by decide +kernel
theorem dX9_taken_127 : decode cX9_taken 127 = .ok (.iload_n 3, 1) := by decide +kernel
theorem dX9_taken_128 : decode cX9_taken 128 = .ok (.goto 5, 3) := by decide +kernel
theorem dX9_taken_131 : decode cX9_taken 131 = .ok (.bipush (-13), 2) := by decide +kernel
theorem dX9_taken_133 : decode cX9_taken 133 = .ok (.ireturn, 1) := by decide +kernel
theorem dX9_act_0 : decode cX9_act 0 = .ok (.aload_n 0, 1) := by decide +kernel
theorem dX9_act_1 : decode cX9_act 1 = .ok (.getfield 55, 3) := by decide +kernel
theorem dX9_act_4 : decode cX9_act 4 = .ok (.iconst 0, 1) := by decide +kernel
theorem dX9_act_5 : decode cX9_act 5 = .ok (.putfield 349, 3) := by decide +kernel
theorem dX9_act_8 : decode cX9_act 8 = .ok (.iload_n 1, 1) := by decide +kernel
theorem dX9_act_9 : decode cX9_act 9 = .ok (.iconst 0, 1) := by decide +kernel
theorem dX9_act_10 : decode cX9_act 10 = .ok (.iconst 3, 1) := by decide +kernel
theorem dX9_act_11 : decode cX9_act 11 = .ok (.invokestatic 74, 3) := by decide +kernel
theorem dX9_act_14 : decode cX9_act 14 = .ok (.ifCond .eq 23, 3) := by decide +kernel
theorem dX9_act_17 : decode cX9_act 17 = .ok (.iload_n 2, 1) := by decide +kernel
theorem dX9_act_18 : decode cX9_act 18 = .ok (.iconst 0, 1) := by decide +kernel
theorem dX9_act_19 : decode cX9_act 19 = .ok (.iconst 3, 1) := by decide +kernel
theorem dX9_act_20 : decode cX9_act 20 = .ok (.invokestatic 74, 3) := by decide +kernel
theorem dX9_act_23 : decode cX9_act 23 = .ok (.ifCond .eq 14, 3) := by decide +kernel
theorem dX9_act_26 : decode cX9_act 26 = .ok (.aload_n 0, 1) := by decide +kernel
theorem dX9_act_27 : decode cX9_act 27 = .ok (.getfield 48, 3) := by decide +kernel
theorem dX9_act_30 : decode cX9_act 30 = .ok (.iload_n 1, 1) := by decide +kernel
theorem dX9_act_31 : decode cX9_act 31 = .ok (.invokevirtual 331, 3) := by decide +kernel
theorem dX9_act_34 : decode cX9_act 34 = .ok (.ifCond .eq 5, 3) := by decide +kernel
theorem dX9_act_37 : decode cX9_act 37 = .ok (.iconst 0, 1) := by decide +kernel
theorem dX9_act_38 : decode cX9_act 38 = .ok (.ireturn, 1) := by decide +kernel
theorem dX9_act_39 : decode cX9_act 39 = .ok (.aload_n 0, 1) := by decide +kernel
theorem dX9_act_40 : decode cX9_act 40 = .ok (.getfield 48, 3) := by decide +kernel
theorem dX9_act_43 : decode cX9_act 43 = .ok (.getfield 340, 3) := by decide +kernel
theorem dX9_act_46 : decode cX9_act 46 = .ok (.iload_n 1, 1) := by decide +kernel
theorem dX9_act_47 : decode cX9_act 47 = .ok (.iaload, 1) := by decide +kernel
theorem dX9_act_48 : decode cX9_act 48 = .ok (.istore 4, 2) := by decide +kernel
theorem dX9_act_50 : decode cX9_act 50 = .ok (.aload_n 0, 1) := by decide +kernel
theorem dX9_act_51 : decode cX9_act 51 = .ok (.getfield 10, 3) := by decide +kernel
theorem dX9_act_54 : decode cX9_act 54 = .ok (.iload 4, 2) := by decide +kernel
theorem dX9_act_56 : decode cX9_act 56 = .ok (.invokevirtual 124, 3) := by decide +kernel
theorem dX9_act_59 : decode cX9_act 59 = .ok (.ifCond .ne 5, 3) := by decide +kernel
theorem dX9_act_62 : decode cX9_act 62 = .ok (.iconst 0, 1) := by decide +kernel
theorem dX9_act_63 : decode cX9_act 63 = .ok (.ireturn, 1) := by decide +kernel
theorem dX9_act_64 : decode cX9_act 64 = .ok (.aload_n 0, 1) := by decide +kernel
theorem dX9_act_65 : decode cX9_act 65 = .ok (.getfield 55, 3) := by decide +kernel
theorem dX9_act_68 : decode cX9_act 68 = .ok (.aload_n 0, 1) := by decide +kernel
theorem dX9_act_69 : decode cX9_act 69 = .ok (.getfield 10, 3) := by decide +kernel
theorem dX9_act_72 : decode cX9_act 72 = .ok (.getfield 114, 3) := by decide +kernel
theorem dX9_act_75 : decode cX9_act 75 = .ok (.iload 4, 2) := by decide +kernel
theorem dX9_act_77 : decode cX9_act 77 = .ok (.aaload, 1) := by decide +kernel
theorem dX9_act_78 : decode cX9_act 78 = .ok (.iload 4, 2) := by decide +kernel
theorem dX9_act_80 : decode cX9_act 80 = .ok (.iload_n 2, 1) := by decide +kernel
theorem dX9_act_81 : decode cX9_act 81 = .ok (.iload_n 3, 1) := by decide +kernel
theorem dX9_act_82 : decode cX9_act 82 = .ok (.invokevirtual 350, 3) := by decide +kernel
theorem dX9_act_85 : decode cX9_act 85 = .ok (.ireturn, 1) := by decide +kernel
theorem dX9_trace_0 : decode cX9_trace 0 = .ok (.iload_n 1, 1) := by decide +kernel
theorem dX9_trace_1 : decode cX9_trace 1 = .ok (.iconst 0, 1) := by decide +kernel
theorem dX9_trace_2 : decode cX9_trace 2 = .ok (.aload_n 0, 1) := by decide +kernel
theorem dX9_trace_3 : decode cX9_trace 3 = .ok (.getfield 55, 3) := by decide +kernel
theorem dX9_trace_6 : decode cX9_trace 6 = .ok (.getfield 349, 3) := by decide +kernel
theorem dX9_trace_9 : decode cX9_trace 9 = .ok (.iconst 1, 1) := by decide +kernel
theorem dX9_trace_10 : decode cX9_trace 10 = .ok (.isub, 1) := by decide +kernel
theorem dX9_trace_11 : decode cX9_trace 11 = .ok (.invokestatic 74, 3) := by decide +kernel
theorem dX9_trace_14 : decode cX9_trace 14 = .ok (.ifCond .eq 15, 3) := by decide +kernel
theorem dX9_trace_17 : decode cX9_trace 17 = .ok (.aload_n 0, 1) := by decide +kernel
theorem dX9_trace_18 : decode cX9_trace 18 = .ok (.getfield 55, 3) := by decide +kernel
theorem dX9_trace_21 : decode cX9_trace 21 = .ok (.getfield 354, 3) := by decide +kernel
theorem dX9_trace_24 : decode cX9_trace 24 = .ok (.iload_n 1, 1) := by decide +kernel
theorem dX9_trace_25 : decode cX9_trace 25 = .ok (.iaload, 1) := by decide +kernel
theorem dX9_trace_26 : decode cX9_trace 26 = .ok (.goto 5, 3) := by decide +kernel
theorem dX9_trace_29 : decode cX9_trace 29 = .ok (.bipush (-3), 2) := by decide +kernel
theorem dX9_trace_31 : decode cX9_trace 31 = .ok (.ireturn, 1) := by decide +kernel
theorem dX9_many_0 : decode cX9_many 0 = .ok (.iload_n 1, 1) := by decide +kernel
theorem dX9_many_1 : decode cX9_many 1 = .ok (.tableswitch 147 0 10 #[59, 67, 75, 86, 94, 102, 107, 115, 123, 131, 139], 59) := by decide +kernel
theorem dX9_many_60 : decode cX9_many 60 = .ok (.aload_n 0, 1) := by decide +kernel
theorem dX9_many_61 : decode cX9_many 61 = .ok (.getfield 10, 3) := by decide +kernel
theorem dX9_many_64 : decode cX9_many 64 = .ok (.getfield 111, 3) := by decide +kernel
theorem dX9_many_67 : decode cX9_many 67 = .ok (.ireturn, 1) := by decide +kernel
theorem dX9_many_68 : decode cX9_many 68 = .ok (.aload_n 0, 1) := by decide +kernel
theorem dX9_many_69 : decode cX9_many 69 = .ok (.getfield 10, 3) := by decide +kernel
theorem dX9_many_72 : decode cX9_many 72 = .ok (.getfield 86, 3) := by decide +kernel
theorem dX9_many_75 : decode cX9_many 75 = .ok (.ireturn, 1) := by decide +kernel
theorem dX9_many_76 : decode cX9_many 76 = .ok (.aload_n 0, 1) := by decide +kernel
theorem dX9_many_77 : decode cX9_many 77 = .ok (.getfield 10, 3) := by decide +kernel
theorem dX9_many_80 : decode cX9_many 80 = .ok (.getfield 211, 3) := by decide +kernel
theorem dX9_many_83 : decode cX9_many 83 = .ok (.getfield 224, 3) := by decide +kernel
theorem dX9_many_86 : decode cX9_many 86 = .ok (.ireturn, 1) := by decide +kernel
theorem dX9_many_87 : decode cX9_many 87 = .ok (.aload_n 0, 1) := by decide +kernel
theorem dX9_many_88 : decode cX9_many 88 = .ok (.getfield 10, 3) := by decide +kernel
theorem dX9_many_91 : decode cX9_many 91 = .ok (.invokevirtual 242, 3) := by decide +kernel
theorem dX9_many_94 : decode cX9_many 94 = .ok (.ireturn, 1) := by decide +kernel
theorem dX9_many_95 : decode cX9_many 95 = .ok (.aload_n 0, 1) := by decide +kernel
theorem dX9_many_96 : decode cX9_many 96 = .ok (.getfield 10, 3) := by decide +kernel
theorem dX9_many_99 : decode cX9_many 99 = .ok (.getfield 290, 3) := by decide +kernel
theorem dX9_many_102 : decode cX9_many 102 = .ok (.ireturn, 1) := by decide +kernel
theorem dX9_many_103 : decode cX9_many 103 = .ok (.aload_n 0, 1) := by decide +kernel
theorem dX9_many_104 : decode cX9_many 104 = .ok (.getfield 66, 3) := by decide +kernel
theorem dX9_many_107 : decode cX9_many 107 = .ok (.ireturn, 1) := by decide +kernel
theorem dX9_many_108 : decode cX9_many 108 = .ok (.aload_n 0, 1) := by decide +kernel
theorem dX9_many_109 : decode cX9_many 109 = .ok (.getfield 41, 3) := by decide +kernel
theorem dX9_many_112 : decode cX9_many 112 = .ok (.getfield 201, 3) := by decide +kernel
theorem dX9_many_115 : decode cX9_many 115 = .ok (.ireturn, 1) := by decide +kernel
theorem dX9_many_116 : decode cX9_many 116 = .ok (.aload_n 0, 1) := by decide +kernel
theorem dX9_many_117 : decode cX9_many 117 = .ok (.getfield 55, 3) := by decide +kernel
theorem dX9_many_120 : decode cX9_many 120 = .ok (.getfield 349, 3) := by decide +kernel
theorem dX9_many_123 : decode cX9_many 123 = .ok (.ireturn, 1) := by decide +kernel
theorem dX9_many_124 : decode cX9_many 124 = .ok (.aload_n 0, 1) := by decide +kernel
theorem dX9_many_125 : decode cX9_many 125 = .ok (.getfield 10, 3) := by decide +kernel
theorem dX9_many_128 : decode cX9_many 128 = .ok (.getfield 141, 3) := by decide +kernel
theorem dX9_many_131 : decode cX9_many 131 = .ok (.ireturn, 1) := by decide +kernel
theorem dX9_many_132 : decode cX9_many 132 = .ok (.aload_n 0, 1) := by decide +kernel
theorem dX9_many_133 : decode cX9_many 133 = .ok (.getfield 10, 3) := by decide +kernel
theorem dX9_many_136 : decode cX9_many 136 = .ok (.getfield 147, 3) := by decide +kernel
theorem dX9_many_139 : decode cX9_many 139 = .ok (.ireturn, 1) := by decide +kernel
theorem dX9_many_140 : decode cX9_many 140 = .ok (.aload_n 0, 1) := by decide +kernel
theorem dX9_many_141 : decode cX9_many 141 = .ok (.getfield 10, 3) := by decide +kernel
theorem dX9_many_144 : decode cX9_many 144 = .ok (.invokevirtual 357, 3) := by decide +kernel
theorem dX9_many_147 : decode cX9_many 147 = .ok (.ireturn, 1) := by decide +kernel
theorem dX9_many_148 : decode cX9_many 148 = .ok (.iconst (-1), 1) := by decide +kernel
theorem dX9_many_149 : decode cX9_many 149 = .ok (.ireturn, 1) := by decide +kernel
theorem dX9_keep_0 : decode cX9_keep 0 = .ok (.aload_n 0, 1) := by decide +kernel
theorem dX9_keep_1 : decode cX9_keep 1 = .ok (.getfield 16, 3) := by decide +kernel
theorem dX9_keep_4 : decode cX9_keep 4 = .ok (.aload_n 0, 1) := by decide +kernel
theorem dX9_keep_5 : decode cX9_keep 5 = .ok (.getfield 10, 3) := by decide +kernel
theorem dX9_keep_8 : decode cX9_keep 8 = .ok (.invokevirtual 360, 3) := by decide +kernel
theorem dX9_keep_11 : decode cX9_keep 11 = .ok (.aload_n 0, 1) := by decide +kernel
theorem dX9_keep_12 : decode cX9_keep 12 = .ok (.iconst 1, 1) := by decide +kernel
theorem dX9_keep_13 : decode cX9_keep 13 = .ok (.putfield 70, 3) := by decide +kernel
theorem dX9_keep_16 : decode cX9_keep 16 = .ok (.iconst 1, 1) := by decide +kernel
theorem dX9_keep_17 : decode cX9_keep 17 = .ok (.ireturn, 1) := by decide +kernel
theorem dX9_again_0 : decode cX9_again 0 = .ok (.aload_n 0, 1) := by decide +kernel
theorem dX9_again_1 : decode cX9_again 1 = .ok (.getfield 70, 3) := by decide +kernel
theorem dX9_again_4 : decode cX9_again 4 = .ok (.ifCond .ne 6, 3) := by decide +kernel
theorem dX9_again_7 : decode cX9_again 7 = .ok (.bipush (-3), 2) := by decide +kernel
theorem dX9_again_9 : decode cX9_again 9 = .ok (.ireturn, 1) := by decide +kernel
theorem dX9_again_10 : decode cX9_again 10 = .ok (.aload_n 0, 1) := by decide +kernel
theorem dX9_again_11 : decode cX9_again 11 = .ok (.getfield 10, 3) := by decide +kernel
theorem dX9_again_14 : decode cX9_again 14 = .ok (.aload_n 0, 1) := by decide +kernel
theorem dX9_again_15 : decode cX9_again 15 = .ok (.getfield 16, 3) := by decide +kernel
theorem dX9_again_18 : decode cX9_again 18 = .ok (.invokevirtual 360, 3) := by decide +kernel
theorem dX9_again_21 : decode cX9_again 21 = .ok (.iconst 1, 1) := by decide +kernel
theorem dX9_again_22 : decode cX9_again 22 = .ok (.ireturn, 1) := by decide +kernel
theorem dX9_within_0 : decode cX9_within 0 = .ok (.iload_n 0, 1) := by decide +kernel
theorem dX9_within_1 : decode cX9_within 1 = .ok (.iload_n 1, 1) := by decide +kernel
theorem dX9_within_2 : decode cX9_within 2 = .ok (.if_icmp .lt 12, 3) := by decide +kernel
theorem dX9_within_5 : decode cX9_within 5 = .ok (.iload_n 0, 1) := by decide +kernel
theorem dX9_within_6 : decode cX9_within 6 = .ok (.iload_n 2, 1) := by decide +kernel
theorem dX9_within_7 : decode cX9_within 7 = .ok (.if_icmp .gt 7, 3) := by decide +kernel
theorem dX9_within_10 : decode cX9_within 10 = .ok (.iconst 1, 1) := by decide +kernel
theorem dX9_within_11 : decode cX9_within 11 = .ok (.goto 4, 3) := by decide +kernel
theorem dX9_within_14 : decode cX9_within 14 = .ok (.iconst 0, 1) := by decide +kernel
theorem dX9_within_15 : decode cX9_within 15 = .ok (.ireturn, 1) := by decide +kernel
theorem dX9_isState_0 : decode cX9_isState 0 = .ok (.iload_n 0, 1) := by decide +kernel
theorem dX9_isState_1 : decode cX9_isState 1 = .ok (.iconst 0, 1) := by decide +kernel
theorem dX9_isState_2 : decode cX9_isState 2 = .ok (.sipush 9260, 3) := by decide +kernel
theorem dX9_isState_5 : decode cX9_isState 5 = .ok (.invokestatic 74, 3) := by decide +kernel
theorem dX9_isState_8 : decode cX9_isState 8 = .ok (.ireturn, 1) := by decide +kernel
theorem dX9_isCorner_0 : decode cX9_isCorner 0 = .ok (.iload_n 0, 1) := by decide +kernel
theorem dX9_isCorner_1 : decode cX9_isCorner 1 = .ok (.iconst 0, 1) := by decide +kernel
theorem dX9_isCorner_2 : decode cX9_isCorner 2 = .ok (.bipush 8, 2) := by decide +kernel
theorem dX9_isCorner_4 : decode cX9_isCorner 4 = .ok (.invokestatic 74, 3) := by decide +kernel
theorem dX9_isCorner_7 : decode cX9_isCorner 7 = .ok (.ireturn, 1) := by decide +kernel
theorem dX9_areEnds_0 : decode cX9_areEnds 0 = .ok (.iload_n 0, 1) := by decide +kernel
theorem dX9_areEnds_1 : decode cX9_areEnds 1 = .ok (.iconst 0, 1) := by decide +kernel
theorem dX9_areEnds_2 : decode cX9_areEnds 2 = .ok (.bipush 99, 2) := by decide +kernel
theorem dX9_areEnds_4 : decode cX9_areEnds 4 = .ok (.invokestatic 74, 3) := by decide +kernel
theorem dX9_areEnds_7 : decode cX9_areEnds 7 = .ok (.ifCond .ne 5, 3) := by decide +kernel
theorem dX9_areEnds_10 : decode cX9_areEnds 10 = .ok (.iconst 0, 1) := by decide +kernel
theorem dX9_areEnds_11 : decode cX9_areEnds 11 = .ok (.ireturn, 1) := by decide +kernel
theorem dX9_areEnds_12 : decode cX9_areEnds 12 = .ok (.iload_n 0, 1) := by decide +kernel
theorem dX9_areEnds_13 : decode cX9_areEnds 13 = .ok (.bipush 10, 2) := by decide +kernel
theorem dX9_areEnds_15 : decode cX9_areEnds 15 = .ok (.idiv, 1) := by decide +kernel
theorem dX9_areEnds_16 : decode cX9_areEnds 16 = .ok (.istore_n 1, 1) := by decide +kernel
theorem dX9_areEnds_17 : decode cX9_areEnds 17 = .ok (.iload_n 0, 1) := by decide +kernel
theorem dX9_areEnds_18 : decode cX9_areEnds 18 = .ok (.bipush 10, 2) := by decide +kernel
theorem dX9_areEnds_20 : decode cX9_areEnds 20 = .ok (.irem, 1) := by decide +kernel
theorem dX9_areEnds_21 : decode cX9_areEnds 21 = .ok (.istore_n 2, 1) := by decide +kernel
theorem dX9_areEnds_22 : decode cX9_areEnds 22 = .ok (.iload_n 1, 1) := by decide +kernel
theorem dX9_areEnds_23 : decode cX9_areEnds 23 = .ok (.iconst 5, 1) := by decide +kernel
theorem dX9_areEnds_24 : decode cX9_areEnds 24 = .ok (.if_icmp .ge 17, 3) := by decide +kernel
theorem dX9_areEnds_27 : decode cX9_areEnds 27 = .ok (.iload_n 2, 1) := by decide +kernel
theorem dX9_areEnds_28 : decode cX9_areEnds 28 = .ok (.iconst 5, 1) := by decide +kernel
theorem dX9_areEnds_29 : decode cX9_areEnds 29 = .ok (.if_icmp .ge 12, 3) := by decide +kernel
theorem dX9_areEnds_32 : decode cX9_areEnds 32 = .ok (.iload_n 1, 1) := by decide +kernel
theorem dX9_areEnds_33 : decode cX9_areEnds 33 = .ok (.iload_n 2, 1) := by decide +kernel
theorem dX9_areEnds_34 : decode cX9_areEnds 34 = .ok (.if_icmp .eq 7, 3) := by decide +kernel
theorem dX9_areEnds_37 : decode cX9_areEnds 37 = .ok (.iconst 1, 1) := by decide +kernel
theorem dX9_areEnds_38 : decode cX9_areEnds 38 = .ok (.goto 4, 3) := by decide +kernel
theorem dX9_areEnds_41 : decode cX9_areEnds 41 = .ok (.iconst 0, 1) := by decide +kernel
theorem dX9_areEnds_42 : decode cX9_areEnds 42 = .ok (.ireturn, 1) := by decide +kernel
theorem dX9_hasLaw_0 : decode cX9_hasLaw 0 = .ok (.iload_n 0, 1) := by decide +kernel
theorem dX9_hasLaw_1 : decode cX9_hasLaw 1 = .ok (.iconst 1, 1) := by decide +kernel
theorem dX9_hasLaw_2 : decode cX9_hasLaw 2 = .ok (.if_icmp .eq 13, 3) := by decide +kernel
theorem dX9_hasLaw_5 : decode cX9_hasLaw 5 = .ok (.iload_n 0, 1) := by decide +kernel
theorem dX9_hasLaw_6 : decode cX9_hasLaw 6 = .ok (.iconst 2, 1) := by decide +kernel
theorem dX9_hasLaw_7 : decode cX9_hasLaw 7 = .ok (.if_icmp .eq 8, 3) := by decide +kernel
theorem dX9_hasLaw_10 : decode cX9_hasLaw 10 = .ok (.iload_n 0, 1) := by decide +kernel
theorem dX9_hasLaw_11 : decode cX9_hasLaw 11 = .ok (.iconst 3, 1) := by decide +kernel
theorem dX9_hasLaw_12 : decode cX9_hasLaw 12 = .ok (.if_icmp .ne 7, 3) := by decide +kernel
theorem dX9_hasLaw_15 : decode cX9_hasLaw 15 = .ok (.iconst 1, 1) := by decide +kernel
theorem dX9_hasLaw_16 : decode cX9_hasLaw 16 = .ok (.goto 4, 3) := by decide +kernel
theorem dX9_hasLaw_19 : decode cX9_hasLaw 19 = .ok (.iconst 0, 1) := by decide +kernel
theorem dX9_hasLaw_20 : decode cX9_hasLaw 20 = .ok (.ireturn, 1) := by decide +kernel
theorem dX9_hasGate_0 : decode cX9_hasGate 0 = .ok (.iload_n 0, 1) := by decide +kernel
theorem dX9_hasGate_1 : decode cX9_hasGate 1 = .ok (.iconst 2, 1) := by decide +kernel
theorem dX9_hasGate_2 : decode cX9_hasGate 2 = .ok (.if_icmp .eq 8, 3) := by decide +kernel
theorem dX9_hasGate_5 : decode cX9_hasGate 5 = .ok (.iload_n 0, 1) := by decide +kernel
theorem dX9_hasGate_6 : decode cX9_hasGate 6 = .ok (.iconst 3, 1) := by decide +kernel
theorem dX9_hasGate_7 : decode cX9_hasGate 7 = .ok (.if_icmp .ne 7, 3) := by decide +kernel
theorem dX9_hasGate_10 : decode cX9_hasGate 10 = .ok (.iconst 1, 1) := by decide +kernel
theorem dX9_hasGate_11 : decode cX9_hasGate 11 = .ok (.goto 4, 3) := by decide +kernel
theorem dX9_hasGate_14 : decode cX9_hasGate 14 = .ok (.iconst 0, 1) := by decide +kernel
theorem dX9_hasGate_15 : decode cX9_hasGate 15 = .ok (.ireturn, 1) := by decide +kernel
theorem dX10_init_0 : decode cX10_init 0 = .ok (.aload_n 0, 1) := by decide +kernel
theorem dX10_init_1 : decode cX10_init 1 = .ok (.invokespecial 1, 3) := by decide +kernel
theorem dX10_init_4 : decode cX10_init 4 = .ok (.aload_n 0, 1) := by decide +kernel
theorem dX10_init_5 : decode cX10_init 5 = .ok (.bipush 10, 2) := by decide +kernel
theorem dX10_init_7 : decode cX10_init 7 = .ok (.putfield 7, 3) := by decide +kernel
theorem dX10_init_10 : decode cX10_init 10 = .ok (.aload_n 0, 1) := by decide +kernel
theorem dX10_init_11 : decode cX10_init 11 = .ok (.bipush 84, 2) := by decide +kernel
theorem dX10_init_13 : decode cX10_init 13 = .ok (.newarray .int, 2) := by decide +kernel
theorem dX10_init_15 : decode cX10_init 15 = .ok (.putfield 13, 3) := by decide +kernel
theorem dX10_init_18 : decode cX10_init 18 = .ok (.aload_n 0, 1) := by decide +kernel
theorem dX10_init_19 : decode cX10_init 19 = .ok (.bipush 100, 2) := by decide +kernel
theorem dX10_init_21 : decode cX10_init 21 = .ok (.newarray .int, 2) := by decide +kernel
theorem dX10_init_23 : decode cX10_init 23 = .ok (.putfield 17, 3) := by decide +kernel
theorem dX10_init_26 : decode cX10_init 26 = .ok (.aload_n 0, 1) := by decide +kernel
theorem dX10_init_27 : decode cX10_init 27 = .ok (.bipush 20, 2) := by decide +kernel
theorem dX10_init_29 : decode cX10_init 29 = .ok (.newarray .int, 2) := by decide +kernel
theorem dX10_init_31 : decode cX10_init 31 = .ok (.putfield 20, 3) := by decide +kernel
theorem dX10_init_34 : decode cX10_init 34 = .ok (.aload_n 0, 1) := by decide +kernel
theorem dX10_init_35 : decode cX10_init 35 = .ok (.bipush 12, 2) := by decide +kernel
theorem dX10_init_37 : decode cX10_init 37 = .ok (.newarray .int, 2) := by decide +kernel
theorem dX10_init_39 : decode cX10_init 39 = .ok (.putfield 23, 3) := by decide +kernel
theorem dX10_init_42 : decode cX10_init 42 = .ok (.aload_n 0, 1) := by decide +kernel
theorem dX10_init_43 : decode cX10_init 43 = .ok (.iconst 3, 1) := by decide +kernel
theorem dX10_init_44 : decode cX10_init 44 = .ok (.newarray .int, 2) := by decide +kernel
theorem dX10_init_46 : decode cX10_init 46 = .ok (.dup, 1) := by decide +kernel
theorem dX10_init_47 : decode cX10_init 47 = .ok (.iconst 0, 1) := by decide +kernel
theorem dX10_init_48 : decode cX10_init 48 = .ok (.iconst (-1), 1) := by decide +kernel
theorem dX10_init_49 : decode cX10_init 49 = .ok (.iastore, 1) := by decide +kernel
theorem dX10_init_50 : decode cX10_init 50 = .ok (.dup, 1) := by decide +kernel
theorem dX10_init_51 : decode cX10_init 51 = .ok (.iconst 1, 1) := by decide +kernel
theorem dX10_init_52 : decode cX10_init 52 = .ok (.iconst (-1), 1) := by decide +kernel
theorem dX10_init_53 : decode cX10_init 53 = .ok (.iastore, 1) := by decide +kernel
theorem dX10_init_54 : decode cX10_init 54 = .ok (.dup, 1) := by decide +kernel
theorem dX10_init_55 : decode cX10_init 55 = .ok (.iconst 2, 1) := by decide +kernel
theorem dX10_init_56 : decode cX10_init 56 = .ok (.iconst (-1), 1) := by decide +kernel
theorem dX10_init_57 : decode cX10_init 57 = .ok (.iastore, 1) := by decide +kernel
theorem dX10_init_58 : decode cX10_init 58 = .ok (.putfield 26, 3) := by decide +kernel
theorem dX10_init_61 : decode cX10_init 61 = .ok (.aload_n 0, 1) := by decide +kernel
theorem dX10_init_62 : decode cX10_init 62 = .ok (.bipush 8, 2) := by decide +kernel
theorem dX10_init_64 : decode cX10_init 64 = .ok (.newarray .int, 2) := by decide +kernel
theorem dX10_init_66 : decode cX10_init 66 = .ok (.putfield 29, 3) := by decide +kernel
theorem dX10_init_69 : decode cX10_init 69 = .ok (.aload_n 0, 1) := by decide +kernel
theorem dX10_init_70 : decode cX10_init 70 = .ok (.sipush 230, 3) := by decide +kernel
theorem dX10_init_73 : decode cX10_init 73 = .ok (.newarray .int, 2) := by decide +kernel
theorem dX10_init_75 : decode cX10_init 75 = .ok (.putfield 32, 3) := by decide +kernel
theorem dX10_init_78 : decode cX10_init 78 = .ok (.aload_n 0, 1) := by decide +kernel
theorem dX10_init_79 : decode cX10_init 79 = .ok (.iconst 5, 1) := by decide +kernel
theorem dX10_init_80 : decode cX10_init 80 = .ok (.newarray .int, 2) := by decide +kernel
theorem dX10_init_82 : decode cX10_init 82 = .ok (.putfield 35, 3) := by decide +kernel
theorem dX10_init_85 : decode cX10_init 85 = .ok (.aload_n 0, 1) := by decide +kernel
theorem dX10_init_86 : decode cX10_init 86 = .ok (.iconst 5, 1) := by decide +kernel
theorem dX10_init_87 : decode cX10_init 87 = .ok (.newarray .int, 2) := by decide +kernel
theorem dX10_init_89 : decode cX10_init 89 = .ok (.putfield 38, 3) := by decide +kernel
theorem dX10_init_92 : decode cX10_init 92 = .ok (.aload_n 0, 1) := by decide +kernel
theorem dX10_init_93 : decode cX10_init 93 = .ok (.iconst 5, 1) := by decide +kernel
theorem dX10_init_94 : decode cX10_init 94 = .ok (.newarray .int, 2) := by decide +kernel
theorem dX10_init_96 : decode cX10_init 96 = .ok (.putfield 41, 3) := by decide +kernel
theorem dX10_init_99 : decode cX10_init 99 = .ok (.aload_n 0, 1) := by decide +kernel
theorem dX10_init_100 : decode cX10_init 100 = .ok (.sipush 9261, 3) := by decide +kernel
theorem dX10_init_103 : decode cX10_init 103 = .ok (.newarray .int, 2) := by decide +kernel
theorem dX10_init_105 : decode cX10_init 105 = .ok (.putfield 44, 3) := by decide +kernel
theorem dX10_init_108 : decode cX10_init 108 = .ok (.aload_n 0, 1) := by decide +kernel
theorem dX10_init_109 : decode cX10_init 109 = .ok (.sipush 9261, 3) := by decide +kernel
theorem dX10_init_112 : decode cX10_init 112 = .ok (.newarray .int, 2) := by decide +kernel
theorem dX10_init_114 : decode cX10_init 114 = .ok (.putfield 47, 3) := by decide +kernel
theorem dX10_init_117 : decode cX10_init 117 = .ok (.aload_n 0, 1) := by decide +kernel
theorem dX10_init_118 : decode cX10_init 118 = .ok (.sipush 220, 3) := by decide +kernel
theorem dX10_init_121 : decode cX10_init 121 = .ok (.newarray .int, 2) := by decide +kernel
theorem dX10_init_123 : decode cX10_init 123 = .ok (.putfield 50, 3) := by decide +kernel
theorem dX10_init_126 : decode cX10_init 126 = .ok (.aload_n 0, 1) := by decide +kernel
theorem dX10_init_127 : decode cX10_init 127 = .ok (.sipush 230, 3) := by decide +kernel
theorem dX10_init_130 : decode cX10_init 130 = .ok (.newarray .int, 2) := by decide +kernel
theorem dX10_init_132 : decode cX10_init 132 = .ok (.putfield 53, 3) := by decide +kernel
theorem dX10_init_135 : decode cX10_init 135 = .ok (.aload_n 0, 1) := by decide +kernel
theorem dX10_init_136 : decode cX10_init 136 = .ok (.sipush 230, 3) := by decide +kernel
theorem dX10_init_139 : decode cX10_init 139 = .ok (.newarray .int, 2) := by decide +kernel
theorem dX10_init_141 : decode cX10_init 141 = .ok (.putfield 56, 3) := by decide +kernel
theorem dX10_init_144 : decode cX10_init 144 = .ok (.aload_n 0, 1) := by decide +kernel
theorem dX10_init_145 : decode cX10_init 145 = .ok (.bipush 8, 2) := by decide +kernel
theorem dX10_init_147 : decode cX10_init 147 = .ok (.newarray .int, 2) := by decide +kernel
theorem dX10_init_149 : decode cX10_init 149 = .ok (.putfield 59, 3) := by decide +kernel
theorem dX10_init_152 : decode cX10_init 152 = .ok (.aload_n 0, 1) := by decide +kernel
theorem dX10_init_153 : decode cX10_init 153 = .ok (.sipush 230, 3) := by decide +kernel
theorem dX10_init_156 : decode cX10_init 156 = .ok (.newarray .int, 2) := by decide +kernel
theorem dX10_init_158 : decode cX10_init 158 = .ok (.putfield 62, 3) := by decide +kernel
theorem dX10_init_161 : decode cX10_init 161 = .ok (.aload_n 0, 1) := by decide +kernel
theorem dX10_init_162 : decode cX10_init 162 = .ok (.iconst 4, 1) := by decide +kernel
theorem dX10_init_163 : decode cX10_init 163 = .ok (.newarray .int, 2) := by decide +kernel
theorem dX10_init_165 : decode cX10_init 165 = .ok (.putfield 65, 3) := by decide +kernel
theorem dX10_init_168 : decode cX10_init 168 = .ok (.aload_n 0, 1) := by decide +kernel
theorem dX10_init_169 : decode cX10_init 169 = .ok (.iconst 4, 1) := by decide +kernel
theorem dX10_init_170 : decode cX10_init 170 = .ok (.newarray .int, 2) := by decide +kernel
theorem dX10_init_172 : decode cX10_init 172 = .ok (.putfield 68, 3) := by decide +kernel
theorem dX10_init_175 : decode cX10_init 175 = .ok (.aload_n 0, 1) := by decide +kernel
theorem dX10_init_176 : decode cX10_init 176 = .ok (.iconst 4, 1) := by decide +kernel
theorem dX10_init_177 : decode cX10_init 177 = .ok (.newarray .int, 2) := by decide +kernel
theorem dX10_init_179 : decode cX10_init 179 = .ok (.putfield 71, 3) := by decide +kernel
theorem dX10_init_182 : decode cX10_init 182 = .ok (.aload_n 0, 1) := by decide +kernel
theorem dX10_init_183 : decode cX10_init 183 = .ok (.iconst 4, 1) := by decide +kernel
theorem dX10_init_184 : decode cX10_init 184 = .ok (.newarray .int, 2) := by decide +kernel
theorem dX10_init_186 : decode cX10_init 186 = .ok (.putfield 74, 3) := by decide +kernel
theorem dX10_init_189 : decode cX10_init 189 = .ok (.aload_n 0, 1) := by decide +kernel
theorem dX10_init_190 : decode cX10_init 190 = .ok (.bipush 8, 2) := by decide +kernel
theorem dX10_init_192 : decode cX10_init 192 = .ok (.newarray .int, 2) := by decide +kernel
theorem dX10_init_194 : decode cX10_init 194 = .ok (.putfield 77, 3) := by decide +kernel
theorem dX10_init_197 : decode cX10_init 197 = .ok (.aload_n 0, 1) := by decide +kernel
theorem dX10_init_198 : decode cX10_init 198 = .ok (.bipush 100, 2) := by decide +kernel
theorem dX10_init_200 : decode cX10_init 200 = .ok (.newarray .int, 2) := by decide +kernel
theorem dX10_init_202 : decode cX10_init 202 = .ok (.putfield 80, 3) := by decide +kernel
theorem dX10_init_205 : decode cX10_init 205 = .ok (.aload_n 0, 1) := by decide +kernel
theorem dX10_init_206 : decode cX10_init 206 = .ok (.iconst 4, 1) := by decide +kernel
theorem dX10_init_207 : decode cX10_init 207 = .ok (.newarray .int, 2) := by decide +kernel
theorem dX10_init_209 : decode cX10_init 209 = .ok (.dup, 1) := by decide +kernel
theorem dX10_init_210 : decode cX10_init 210 = .ok (.iconst 0, 1) := by decide +kernel
theorem dX10_init_211 : decode cX10_init 211 = .ok (.iconst (-1), 1) := by decide +kernel
theorem dX10_init_212 : decode cX10_init 212 = .ok (.iastore, 1) := by decide +kernel
theorem dX10_init_213 : decode cX10_init 213 = .ok (.dup, 1) := by decide +kernel
theorem dX10_init_214 : decode cX10_init 214 = .ok (.iconst 1, 1) := by decide +kernel
theorem dX10_init_215 : decode cX10_init 215 = .ok (.iconst (-1), 1) := by decide +kernel
theorem dX10_init_216 : decode cX10_init 216 = .ok (.iastore, 1) := by decide +kernel
theorem dX10_init_217 : decode cX10_init 217 = .ok (.dup, 1) := by decide +kernel
theorem dX10_init_218 : decode cX10_init 218 = .ok (.iconst 2, 1) := by decide +kernel
theorem dX10_init_219 : decode cX10_init 219 = .ok (.iconst (-1), 1) := by decide +kernel
theorem dX10_init_220 : decode cX10_init 220 = .ok (.iastore, 1) := by decide +kernel
theorem dX10_init_221 : decode cX10_init 221 = .ok (.dup, 1) := by decide +kernel
theorem dX10_init_222 : decode cX10_init 222 = .ok (.iconst 3, 1) := by decide +kernel
theorem dX10_init_223 : decode cX10_init 223 = .ok (.iconst (-1), 1) := by decide +kernel
theorem dX10_init_224 : decode cX10_init 224 = .ok (.iastore, 1) := by decide +kernel
theorem dX10_init_225 : decode cX10_init 225 = .ok (.putfield 83, 3) := by decide +kernel
theorem dX10_init_228 : decode cX10_init 228 = .ok (.aload_n 0, 1) := by decide +kernel
theorem dX10_init_229 : decode cX10_init 229 = .ok (.iconst 4, 1) := by decide +kernel
theorem dX10_init_230 : decode cX10_init 230 = .ok (.newarray .int, 2) := by decide +kernel
theorem dX10_init_232 : decode cX10_init 232 = .ok (.putfield 86, 3) := by decide +kernel
theorem dX10_init_235 : decode cX10_init 235 = .ok (.aload_n 0, 1) := by decide +kernel
theorem dX10_init_236 : decode cX10_init 236 = .ok (.sipush 160, 3) := by decide +kernel
theorem dX10_init_239 : decode cX10_init 239 = .ok (.newarray .long, 2) := by decide +kernel
theorem dX10_init_241 : decode cX10_init 241 = .ok (.putfield 89, 3) := by decide +kernel
theorem dX10_init_244 : decode cX10_init 244 = .ok (.aload_n 0, 1) := by decide +kernel
theorem dX10_init_245 : decode cX10_init 245 = .ok (.iconst 4, 1) := by decide +kernel
theorem dX10_init_246 : decode cX10_init 246 = .ok (.newarray .int, 2) := by decide +kernel
theorem dX10_init_248 : decode cX10_init 248 = .ok (.dup, 1) := by decide +kernel
theorem dX10_init_249 : decode cX10_init 249 = .ok (.iconst 0, 1) := by decide +kernel
theorem dX10_init_250 : decode cX10_init 250 = .ok (.iconst (-1), 1) := by decide +kernel
theorem dX10_init_251 : decode cX10_init 251 = .ok (.iastore, 1) := by decide +kernel
theorem dX10_init_252 : decode cX10_init 252 = .ok (.dup, 1) := by decide +kernel
theorem dX10_init_253 : decode cX10_init 253 = .ok (.iconst 1, 1) := by decide +kernel
theorem dX10_init_254 : decode cX10_init 254 = .ok (.iconst (-1), 1) := by decide +kernel
theorem dX10_init_255 : decode cX10_init 255 = .ok (.iastore, 1) := by decide +kernel
theorem dX10_init_256 : decode cX10_init 256 = .ok (.dup, 1) := by decide +kernel
theorem dX10_init_257 : decode cX10_init 257 = .ok (.iconst 2, 1) := by decide +kernel
theorem dX10_init_258 : decode cX10_init 258 = .ok (.iconst (-1), 1) := by decide +kernel
theorem dX10_init_259 : decode cX10_init 259 = .ok (.iastore, 1) := by decide +kernel
theorem dX10_init_260 : decode cX10_init 260 = .ok (.dup, 1) := by decide +kernel
theorem dX10_init_261 : decode cX10_init 261 = .ok (.iconst 3, 1) := by decide +kernel
theorem dX10_init_262 : decode cX10_init 262 = .ok (.iconst (-1), 1) := by decide +kernel
theorem dX10_init_263 : decode cX10_init 263 = .ok (.iastore, 1) := by decide +kernel
theorem dX10_init_264 : decode cX10_init 264 = .ok (.putfield 93, 3) := by decide +kernel
theorem dX10_init_267 : decode cX10_init 267 = .ok (.aload_n 0, 1) := by decide +kernel
theorem dX10_init_268 : decode cX10_init 268 = .ok (.iconst 4, 1) := by decide +kernel
theorem dX10_init_269 : decode cX10_init 269 = .ok (.newarray .int, 2) := by decide +kernel
theorem dX10_init_271 : decode cX10_init 271 = .ok (.putfield 96, 3) := by decide +kernel
theorem dX10_init_274 : decode cX10_init 274 = .ok (.aload_n 0, 1) := by decide +kernel
theorem dX10_init_275 : decode cX10_init 275 = .ok (.iconst 4, 1) := by decide +kernel
theorem dX10_init_276 : decode cX10_init 276 = .ok (.newarray .int, 2) := by decide +kernel
theorem dX10_init_278 : decode cX10_init 278 = .ok (.putfield 99, 3) := by decide +kernel
theorem dX10_init_281 : decode cX10_init 281 = .ok (.aload_n 0, 1) := by decide +kernel
theorem dX10_init_282 : decode cX10_init 282 = .ok (.bipush 30, 2) := by decide +kernel
theorem dX10_init_284 : decode cX10_init 284 = .ok (.newarray .int, 2) := by decide +kernel
theorem dX10_init_286 : decode cX10_init 286 = .ok (.putfield 102, 3) := by decide +kernel
theorem dX10_init_289 : decode cX10_init 289 = .ok (.aload_n 0, 1) := by decide +kernel
theorem dX10_init_290 : decode cX10_init 290 = .ok (.sipush 500, 3) := by decide +kernel
theorem dX10_init_293 : decode cX10_init 293 = .ok (.newarray .int, 2) := by decide +kernel
theorem dX10_init_295 : decode cX10_init 295 = .ok (.putfield 105, 3) := by decide +kernel
theorem dX10_init_298 : decode cX10_init 298 = .ok (.aload_n 0, 1) := by decide +kernel
theorem dX10_init_299 : decode cX10_init 299 = .ok (.bipush 6, 2) := by decide +kernel
theorem dX10_init_301 : decode cX10_init 301 = .ok (.newarray .int, 2) := by decide +kernel
theorem dX10_init_303 : decode cX10_init 303 = .ok (.putfield 108, 3) := by decide +kernel
theorem dX10_init_306 : decode cX10_init 306 = .ok (.return_, 1) := by decide +kernel
theorem dX10_in_0 : decode cX10_in 0 = .ok (.iload_n 0, 1) := by decide +kernel
theorem dX10_in_1 : decode cX10_in 1 = .ok (.iload_n 1, 1) := by decide +kernel
theorem dX10_in_2 : decode cX10_in 2 = .ok (.if_icmp .lt 12, 3) := by decide +kernel
theorem dX10_in_5 : decode cX10_in 5 = .ok (.iload_n 0, 1) := by decide +kernel
theorem dX10_in_6 : decode cX10_in 6 = .ok (.iload_n 2, 1) := by decide +kernel
theorem dX10_in_7 : decode cX10_in 7 = .ok (.if_icmp .gt 7, 3) := by decide +kernel
theorem dX10_in_10 : decode cX10_in 10 = .ok (.iconst 1, 1) := by decide +kernel
theorem dX10_in_11 : decode cX10_in 11 = .ok (.goto 4, 3) := by decide +kernel
theorem dX10_in_14 : decode cX10_in 14 = .ok (.iconst 0, 1) := by decide +kernel
theorem dX10_in_15 : decode cX10_in 15 = .ok (.ireturn, 1) := by decide +kernel
theorem dX10_isPart_0 : decode cX10_isPart 0 = .ok (.iload_n 1, 1) := by decide +kernel
theorem dX10_isPart_1 : decode cX10_isPart 1 = .ok (.iconst 0, 1) := by decide +kernel
theorem dX10_isPart_2 : decode cX10_isPart 2 = .ok (.aload_n 0, 1) := by decide +kernel
theorem dX10_isPart_3 : decode cX10_isPart 3 = .ok (.getfield 111, 3) := by decide +kernel
theorem dX10_isPart_6 : decode cX10_isPart 6 = .ok (.iconst 1, 1) := by decide +kernel
theorem dX10_isPart_7 : decode cX10_isPart 7 = .ok (.isub, 1) := by decide +kernel
theorem dX10_isPart_8 : decode cX10_isPart 8 = .ok (.invokestatic 114, 3) := by decide +kernel
theorem dX10_isPart_11 : decode cX10_isPart 11 = .ok (.ireturn, 1) := by decide +kernel
theorem dX10_isState_0 : decode cX10_isState 0 = .ok (.iload_n 0, 1) := by decide +kernel
theorem dX10_isState_1 : decode cX10_isState 1 = .ok (.iconst 0, 1) := by decide +kernel
theorem dX10_isState_2 : decode cX10_isState 2 = .ok (.sipush 9260, 3) := by decide +kernel
theorem dX10_isState_5 : decode cX10_isState 5 = .ok (.invokestatic 114, 3) := by decide +kernel
theorem dX10_isState_8 : decode cX10_isState 8 = .ok (.ireturn, 1) := by decide +kernel
theorem dX10_isCorner_0 : decode cX10_isCorner 0 = .ok (.iload_n 0, 1) := by decide +kernel
theorem dX10_isCorner_1 : decode cX10_isCorner 1 = .ok (.iconst 0, 1) := by decide +kernel
theorem dX10_isCorner_2 : decode cX10_isCorner 2 = .ok (.bipush 8, 2) := by decide +kernel
theorem dX10_isCorner_4 : decode cX10_isCorner 4 = .ok (.invokestatic 114, 3) := by decide +kernel
theorem dX10_isCorner_7 : decode cX10_isCorner 7 = .ok (.ireturn, 1) := by decide +kernel
theorem dX10_isNode_0 : decode cX10_isNode 0 = .ok (.iload_n 0, 1) := by decide +kernel
theorem dX10_isNode_1 : decode cX10_isNode 1 = .ok (.iconst 0, 1) := by decide +kernel
theorem dX10_isNode_2 : decode cX10_isNode 2 = .ok (.iconst 4, 1) := by decide +kernel
theorem dX10_isNode_3 : decode cX10_isNode 3 = .ok (.invokestatic 114, 3) := by decide +kernel
theorem dX10_isNode_6 : decode cX10_isNode 6 = .ok (.ireturn, 1) := by decide +kernel
theorem dX10_its_0 : decode cX10_its 0 = .ok (.aload_n 0, 1) := by decide +kernel
theorem dX10_its_1 : decode cX10_its 1 = .ok (.getfield 17, 3) := by decide +kernel
theorem dX10_its_4 : decode cX10_its 4 = .ok (.bipush 10, 2) := by decide +kernel
theorem dX10_its_6 : decode cX10_its 6 = .ok (.iload_n 1, 1) := by decide +kernel
theorem dX10_its_7 : decode cX10_its 7 = .ok (.imul, 1) := by decide +kernel
theorem dX10_its_8 : decode cX10_its 8 = .ok (.iload_n 2, 1) := by decide +kernel
theorem dX10_its_9 : decode cX10_its 9 = .ok (.iadd, 1) := by decide +kernel
theorem dX10_its_10 : decode cX10_its 10 = .ok (.iaload, 1) := by decide +kernel
theorem dX10_its_11 : decode cX10_its 11 = .ok (.ireturn, 1) := by decide +kernel
theorem dX10_table_0 : decode cX10_table 0 = .ok (.iload_n 1, 1) := by decide +kernel
theorem dX10_table_1 : decode cX10_table 1 = .ok (.invokestatic 118, 3) := by decide +kernel
theorem dX10_table_4 : decode cX10_table 4 = .ok (.ifCond .ne 5, 3) := by decide +kernel
theorem dX10_table_7 : decode cX10_table 7 = .ok (.iconst (-1), 1) := by decide +kernel
theorem dX10_table_8 : decode cX10_table 8 = .ok (.ireturn, 1) := by decide +kernel
theorem dX10_table_9 : decode cX10_table 9 = .ok (.aload_n 0, 1) := by decide +kernel
theorem dX10_table_10 : decode cX10_table 10 = .ok (.iload_n 1, 1) := by decide +kernel
theorem dX10_table_11 : decode cX10_table 11 = .ok (.iconst 0, 1) := by decide +kernel
theorem dX10_table_12 : decode cX10_table 12 = .ok (.invokevirtual 122, 3) := by decide +kernel
theorem dX10_table_15 : decode cX10_table 15 = .ok (.istore_n 2, 1) := by decide +kernel
theorem dX10_table_16 : decode cX10_table 16 = .ok (.iload_n 2, 1) := by decide +kernel
theorem dX10_table_17 : decode cX10_table 17 = .ok (.ifCond .eq 5, 3) := by decide +kernel
theorem dX10_table_20 : decode cX10_table 20 = .ok (.iload_n 2, 1) := by decide +kernel
theorem dX10_table_21 : decode cX10_table 21 = .ok (.ireturn, 1) := by decide +kernel
theorem dX10_table_22 : decode cX10_table 22 = .ok (.aload_n 0, 1) := by decide +kernel
theorem dX10_table_23 : decode cX10_table 23 = .ok (.getfield 86, 3) := by decide +kernel
theorem dX10_table_26 : decode cX10_table 26 = .ok (.iload_n 1, 1) := by decide +kernel
theorem dX10_table_27 : decode cX10_table 27 = .ok (.iaload, 1) := by decide +kernel
theorem dX10_table_28 : decode cX10_table 28 = .ok (.bipush 21, 2) := by decide +kernel
theorem dX10_table_30 : decode cX10_table 30 = .ok (.if_icmp .ne 7, 3) := by decide +kernel
theorem dX10_table_33 : decode cX10_table 33 = .ok (.iconst 1, 1) := by decide +kernel
theorem dX10_table_34 : decode cX10_table 34 = .ok (.goto 4, 3) := by decide +kernel
theorem dX10_table_37 : decode cX10_table 37 = .ok (.iconst 0, 1) := by decide +kernel
theorem dX10_table_38 : decode cX10_table 38 = .ok (.istore_n 3, 1) := by decide +kernel
theorem dX10_table_39 : decode cX10_table 39 = .ok (.iconst 0, 1) := by decide +kernel
theorem dX10_table_40 : decode cX10_table 40 = .ok (.istore 4, 2) := by decide +kernel
theorem dX10_table_42 : decode cX10_table 42 = .ok (.iload 4, 2) := by decide +kernel
theorem dX10_table_44 : decode cX10_table 44 = .ok (.bipush 21, 2) := by decide +kernel
theorem dX10_table_46 : decode cX10_table 46 = .ok (.if_icmp .ge 55, 3) := by decide +kernel
theorem dX10_table_49 : decode cX10_table 49 = .ok (.iload_n 3, 1) := by decide +kernel
theorem dX10_table_50 : decode cX10_table 50 = .ok (.ifCond .eq 43, 3) := by decide +kernel
theorem dX10_table_53 : decode cX10_table 53 = .ok (.aload_n 0, 1) := by decide +kernel
theorem dX10_table_54 : decode cX10_table 54 = .ok (.getfield 89, 3) := by decide +kernel
theorem dX10_table_57 : decode cX10_table 57 = .ok (.bipush 40, 2) := by decide +kernel
theorem dX10_table_59 : decode cX10_table 59 = .ok (.iload_n 1, 1) := by decide +kernel
theorem dX10_table_60 : decode cX10_table 60 = .ok (.imul, 1) := by decide +kernel
theorem dX10_table_61 : decode cX10_table 61 = .ok (.iload 4, 2) := by decide +kernel
theorem dX10_table_63 : decode cX10_table 63 = .ok (.iadd, 1) := by decide +kernel
theorem dX10_table_64 : decode cX10_table 64 = .ok (.laload, 1) := by decide +kernel
theorem dX10_table_65 : decode cX10_table 65 = .ok (.lconst 0, 1) := by decide +kernel
theorem dX10_table_66 : decode cX10_table 66 = .ok (.lcmp, 1) := by decide +kernel
theorem dX10_table_67 : decode cX10_table 67 = .ok (.ifCond .lt 26, 3) := by decide +kernel
theorem dX10_table_70 : decode cX10_table 70 = .ok (.aload_n 0, 1) := by decide +kernel
theorem dX10_table_71 : decode cX10_table 71 = .ok (.getfield 89, 3) := by decide +kernel
theorem dX10_table_74 : decode cX10_table 74 = .ok (.bipush 40, 2) := by decide +kernel
theorem dX10_table_76 : decode cX10_table 76 = .ok (.iload_n 1, 1) := by decide +kernel
theorem dX10_table_77 : decode cX10_table 77 = .ok (.imul, 1) := by decide +kernel
theorem dX10_table_78 : decode cX10_table 78 = .ok (.iload 4, 2) := by decide +kernel
theorem dX10_table_80 : decode cX10_table 80 = .ok (.iadd, 1) := by decide +kernel
theorem dX10_table_81 : decode cX10_table 81 = .ok (.laload, 1) := by decide +kernel
theorem dX10_table_82 : decode cX10_table 82 = .ok (.ldc2_w 126, 3) := by decide +kernel
theorem dX10_table_85 : decode cX10_table 85 = .ok (.lcmp, 1) := by decide +kernel
theorem dX10_table_86 : decode cX10_table 86 = .ok (.ifCond .gt 7, 3) := by decide +kernel
theorem dX10_table_89 : decode cX10_table 89 = .ok (.iconst 1, 1) := by decide +kernel
theorem dX10_table_90 : decode cX10_table 90 = .ok (.goto 4, 3) := by decide +kernel
theorem dX10_table_93 : decode cX10_table 93 = .ok (.iconst 0, 1) := by decide +kernel
theorem dX10_table_94 : decode cX10_table 94 = .ok (.istore_n 3, 1) := by decide +kernel
theorem dX10_table_95 : decode cX10_table 95 = .ok (.iinc 4 1, 3) := by decide +kernel
theorem dX10_table_98 : decode cX10_table 98 = .ok (.goto (-56), 3) := by decide +kernel
theorem dX10_table_101 : decode cX10_table 101 = .ok (.iload_n 3, 1) := by decide +kernel
theorem dX10_table_102 : decode cX10_table 102 = .ok (.ifCond .ne 6, 3) := by decide +kernel
theorem dX10_table_105 : decode cX10_table 105 = .ok (.bipush (-4), 2) := by decide +kernel
theorem dX10_table_107 : decode cX10_table 107 = .ok (.ireturn, 1) := by decide +kernel
theorem dX10_table_108 : decode cX10_table 108 = .ok (.aload_n 0, 1) := by decide +kernel
theorem dX10_table_109 : decode cX10_table 109 = .ok (.getfield 128, 3) := by decide +kernel
theorem dX10_table_112 : decode cX10_table 112 = .ok (.iconst 4, 1) := by decide +kernel
theorem dX10_table_113 : decode cX10_table 113 = .ok (.if_icmp .ne 6, 3) := by decide +kernel
theorem dX10_table_116 : decode cX10_table 116 = .ok (.bipush (-2), 2) := by decide +kernel
theorem dX10_table_118 : decode cX10_table 118 = .ok (.ireturn, 1) := by decide +kernel
theorem dX10_table_119 : decode cX10_table 119 = .ok (.iconst 0, 1) := by decide +kernel
theorem dX10_table_120 : decode cX10_table 120 = .ok (.istore 4, 2) := by decide +kernel
theorem dX10_table_122 : decode cX10_table 122 = .ok (.iload 4, 2) := by decide +kernel
theorem dX10_table_124 : decode cX10_table 124 = .ok (.bipush 21, 2) := by decide +kernel
theorem dX10_table_126 : decode cX10_table 126 = .ok (.if_icmp .ge 37, 3) := by decide +kernel
theorem dX10_table_129 : decode cX10_table 129 = .ok (.aload_n 0, 1) := by decide +kernel
theorem dX10_table_130 : decode cX10_table 130 = .ok (.getfield 13, 3) := by decide +kernel
theorem dX10_table_133 : decode cX10_table 133 = .ok (.bipush 21, 2) := by decide +kernel
theorem dX10_table_135 : decode cX10_table 135 = .ok (.aload_n 0, 1) := by decide +kernel
theorem dX10_table_136 : decode cX10_table 136 = .ok (.getfield 128, 3) := by decide +kernel
theorem dX10_table_139 : decode cX10_table 139 = .ok (.imul, 1) := by decide +kernel
theorem dX10_table_140 : decode cX10_table 140 = .ok (.iload 4, 2) := by decide +kernel
theorem dX10_table_142 : decode cX10_table 142 = .ok (.iadd, 1) := by decide +kernel
theorem dX10_table_143 : decode cX10_table 143 = .ok (.aload_n 0, 1) := by decide +kernel
theorem dX10_table_144 : decode cX10_table 144 = .ok (.getfield 89, 3) := by decide +kernel
theorem dX10_table_147 : decode cX10_table 147 = .ok (.bipush 40, 2) := by decide +kernel
theorem dX10_table_149 : decode cX10_table 149 = .ok (.iload_n 1, 1) := by decide +kernel
theorem dX10_table_150 : decode cX10_table 150 = .ok (.imul, 1) := by decide +kernel
theorem dX10_table_151 : decode cX10_table 151 = .ok (.iload 4, 2) := by decide +kernel
theorem dX10_table_153 : decode cX10_table 153 = .ok (.iadd, 1) := by decide +kernel
theorem dX10_table_154 : decode cX10_table 154 = .ok (.laload, 1) := by decide +kernel
theorem dX10_table_155 : decode cX10_table 155 = .ok (.l2i, 1) := by decide +kernel
theorem dX10_table_156 : decode cX10_table 156 = .ok (.iastore, 1) := by decide +kernel
theorem dX10_table_157 : decode cX10_table 157 = .ok (.iinc 4 1, 3) := by decide +kernel
theorem dX10_table_160 : decode cX10_table 160 = .ok (.goto (-38), 3) := by decide +kernel
theorem dX10_table_163 : decode cX10_table 163 = .ok (.aload_n 0, 1) := by decide +kernel
theorem dX10_table_164 : decode cX10_table 164 = .ok (.dup, 1) := by decide +kernel
theorem dX10_table_165 : decode cX10_table 165 = .ok (.getfield 128, 3) := by decide +kernel
theorem dX10_table_168 : decode cX10_table 168 = .ok (.iconst 1, 1) := by decide +kernel
theorem dX10_table_169 : decode cX10_table 169 = .ok (.iadd, 1) := by decide +kernel
theorem dX10_table_170 : decode cX10_table 170 = .ok (.putfield 128, 3) := by decide +kernel
theorem dX10_table_173 : decode cX10_table 173 = .ok (.aload_n 0, 1) := by decide +kernel
theorem dX10_table_174 : decode cX10_table 174 = .ok (.getfield 128, 3) := by decide +kernel
theorem dX10_table_177 : decode cX10_table 177 = .ok (.iconst 1, 1) := by decide +kernel
theorem dX10_table_178 : decode cX10_table 178 = .ok (.isub, 1) := by decide +kernel
theorem dX10_table_179 : decode cX10_table 179 = .ok (.ireturn, 1) := by decide +kernel
theorem dX10_isLawful_0 : decode cX10_isLawful 0 = .ok (.iload_n 0, 1) := by decide +kernel
theorem dX10_isLawful_1 : decode cX10_isLawful 1 = .ok (.iconst 1, 1) := by decide +kernel
theorem dX10_isLawful_2 : decode cX10_isLawful 2 = .ok (.iconst 3, 1) := by decide +kernel
theorem dX10_isLawful_3 : decode cX10_isLawful 3 = .ok (.invokestatic 114, 3) := by decide +kernel
theorem dX10_isLawful_6 : decode cX10_isLawful 6 = .ok (.ireturn, 1) := by decide +kernel
theorem dX10_isGated_0 : decode cX10_isGated 0 = .ok (.iload_n 0, 1) := by decide +kernel
theorem dX10_isGated_1 : decode cX10_isGated 1 = .ok (.iconst 2, 1) := by decide +kernel
theorem dX10_isGated_2 : decode cX10_isGated 2 = .ok (.iconst 3, 1) := by decide +kernel
theorem dX10_isGated_3 : decode cX10_isGated 3 = .ok (.invokestatic 114, 3) := by decide +kernel
theorem dX10_isGated_6 : decode cX10_isGated 6 = .ok (.ireturn, 1) := by decide +kernel
theorem dX10_isLaw_0 : decode cX10_isLaw 0 = .ok (.iload_n 1, 1) := by decide +kernel
theorem dX10_isLaw_1 : decode cX10_isLaw 1 = .ok (.ifCond .lt 29, 3) := by decide +kernel
theorem dX10_isLaw_4 : decode cX10_isLaw 4 = .ok (.iload_n 1, 1) := by decide +kernel
theorem dX10_isLaw_5 : decode cX10_isLaw 5 = .ok (.bipush 100, 2) := by decide +kernel
theorem dX10_isLaw_7 : decode cX10_isLaw 7 = .ok (.idiv, 1) := by decide +kernel
theorem dX10_isLaw_8 : decode cX10_isLaw 8 = .ok (.aload_n 0, 1) := by decide +kernel
theorem dX10_isLaw_9 : decode cX10_isLaw 9 = .ok (.getfield 128, 3) := by decide +kernel
theorem dX10_isLaw_12 : decode cX10_isLaw 12 = .ok (.if_icmp .ge 18, 3) := by decide +kernel
theorem dX10_isLaw_15 : decode cX10_isLaw 15 = .ok (.iload_n 1, 1) := by decide +kernel
theorem dX10_isLaw_16 : decode cX10_isLaw 16 = .ok (.bipush 10, 2) := by decide +kernel
theorem dX10_isLaw_18 : decode cX10_isLaw 18 = .ok (.idiv, 1) := by decide +kernel
theorem dX10_isLaw_19 : decode cX10_isLaw 19 = .ok (.bipush 10, 2) := by decide +kernel
theorem dX10_isLaw_21 : decode cX10_isLaw 21 = .ok (.irem, 1) := by decide +kernel
theorem dX10_isLaw_22 : decode cX10_isLaw 22 = .ok (.iconst 5, 1) := by decide +kernel
theorem dX10_isLaw_23 : decode cX10_isLaw 23 = .ok (.if_icmp .gt 7, 3) := by decide +kernel
theorem dX10_isLaw_26 : decode cX10_isLaw 26 = .ok (.iconst 1, 1) := by decide +kernel
theorem dX10_isLaw_27 : decode cX10_isLaw 27 = .ok (.goto 4, 3) := by decide +kernel
theorem dX10_isLaw_30 : decode cX10_isLaw 30 = .ok (.iconst 0, 1) := by decide +kernel
theorem dX10_isLaw_31 : decode cX10_isLaw 31 = .ok (.ireturn, 1) := by decide +kernel
theorem dX10_isGate_0 : decode cX10_isGate 0 = .ok (.iload_n 2, 1) := by decide +kernel
theorem dX10_isGate_1 : decode cX10_isGate 1 = .ok (.ifCond .lt 13, 3) := by decide +kernel
theorem dX10_isGate_4 : decode cX10_isGate 4 = .ok (.iload_n 2, 1) := by decide +kernel
theorem dX10_isGate_5 : decode cX10_isGate 5 = .ok (.bipush 10, 2) := by decide +kernel
theorem dX10_isGate_7 : decode cX10_isGate 7 = .ok (.irem, 1) := by decide +kernel
theorem dX10_isGate_8 : decode cX10_isGate 8 = .ok (.invokestatic 131, 3) := by decide +kernel
theorem dX10_isGate_11 : decode cX10_isGate 11 = .ok (.ifCond .ne 5, 3) := by decide +kernel
theorem dX10_isGate_14 : decode cX10_isGate 14 = .ok (.iconst 0, 1) := by decide +kernel
theorem dX10_isGate_15 : decode cX10_isGate 15 = .ok (.ireturn, 1) := by decide +kernel
theorem dX10_isGate_16 : decode cX10_isGate 16 = .ok (.iload_n 2, 1) := by decide +kernel
theorem dX10_isGate_17 : decode cX10_isGate 17 = .ok (.bipush 10, 2) := by decide +kernel
theorem dX10_isGate_19 : decode cX10_isGate 19 = .ok (.idiv, 1) := by decide +kernel
theorem dX10_isGate_20 : decode cX10_isGate 20 = .ok (.istore_n 3, 1) := by decide +kernel
theorem dX10_isGate_21 : decode cX10_isGate 21 = .ok (.iload_n 1, 1) := by decide +kernel
theorem dX10_isGate_22 : decode cX10_isGate 22 = .ok (.iconst 2, 1) := by decide +kernel
theorem dX10_isGate_23 : decode cX10_isGate 23 = .ok (.if_icmp .ne 15, 3) := by decide +kernel
theorem dX10_isGate_26 : decode cX10_isGate 26 = .ok (.iload_n 3, 1) := by decide +kernel
theorem dX10_isGate_27 : decode cX10_isGate 27 = .ok (.ifCond .ne 7, 3) := by decide +kernel
theorem dX10_isGate_30 : decode cX10_isGate 30 = .ok (.iconst 1, 1) := by decide +kernel
theorem dX10_isGate_31 : decode cX10_isGate 31 = .ok (.goto 32, 3) := by decide +kernel
theorem dX10_isGate_34 : decode cX10_isGate 34 = .ok (.iconst 0, 1) := by decide +kernel
theorem dX10_isGate_35 : decode cX10_isGate 35 = .ok (.goto 28, 3) := by decide +kernel
theorem dX10_isGate_38 : decode cX10_isGate 38 = .ok (.aload_n 0, 1) := by decide +kernel
theorem dX10_isGate_39 : decode cX10_isGate 39 = .ok (.iload_n 3, 1) := by decide +kernel
theorem dX10_isGate_40 : decode cX10_isGate 40 = .ok (.invokevirtual 134, 3) := by decide +kernel
theorem dX10_isGate_43 : decode cX10_isGate 43 = .ok (.ifCond .eq 19, 3) := by decide +kernel
theorem dX10_isGate_46 : decode cX10_isGate 46 = .ok (.aload_n 0, 1) := by decide +kernel
theorem dX10_isGate_47 : decode cX10_isGate 47 = .ok (.iload_n 3, 1) := by decide +kernel
theorem dX10_isGate_48 : decode cX10_isGate 48 = .ok (.iconst 0, 1) := by decide +kernel
theorem dX10_isGate_49 : decode cX10_isGate 49 = .ok (.invokevirtual 137, 3) := by decide +kernel
theorem dX10_isGate_52 : decode cX10_isGate 52 = .ok (.invokestatic 140, 3) := by decide +kernel
theorem dX10_isGate_55 : decode cX10_isGate 55 = .ok (.ifCond .eq 7, 3) := by decide +kernel
theorem dX10_isGate_58 : decode cX10_isGate 58 = .ok (.iconst 1, 1) := by decide +kernel
theorem dX10_isGate_59 : decode cX10_isGate 59 = .ok (.goto 4, 3) := by decide +kernel
theorem dX10_isGate_62 : decode cX10_isGate 62 = .ok (.iconst 0, 1) := by decide +kernel
theorem dX10_isGate_63 : decode cX10_isGate 63 = .ok (.ireturn, 1) := by decide +kernel
theorem dX10_part_0 : decode cX10_part 0 = .ok (.iload_n 1, 1) := by decide +kernel
theorem dX10_part_1 : decode cX10_part 1 = .ok (.iconst 1, 1) := by decide +kernel
theorem dX10_part_2 : decode cX10_part 2 = .ok (.iconst 5, 1) := by decide +kernel
theorem dX10_part_3 : decode cX10_part 3 = .ok (.invokestatic 114, 3) := by decide +kernel
theorem dX10_part_6 : decode cX10_part 6 = .ok (.ifCond .eq 44, 3) := by decide +kernel
theorem dX10_part_9 : decode cX10_part 9 = .ok (.iload_n 2, 1) := by decide +kernel
theorem dX10_part_10 : decode cX10_part 10 = .ok (.iconst 0, 1) := by decide +kernel
theorem dX10_part_11 : decode cX10_part 11 = .ok (.bipush 44, 2) := by decide +kernel
theorem dX10_part_13 : decode cX10_part 13 = .ok (.invokestatic 114, 3) := by decide +kernel
theorem dX10_part_16 : decode cX10_part 16 = .ok (.ifCond .eq 34, 3) := by decide +kernel
theorem dX10_part_19 : decode cX10_part 19 = .ok (.iload_n 2, 1) := by decide +kernel
theorem dX10_part_20 : decode cX10_part 20 = .ok (.bipush 10, 2) := by decide +kernel
theorem dX10_part_22 : decode cX10_part 22 = .ok (.irem, 1) := by decide +kernel
theorem dX10_part_23 : decode cX10_part 23 = .ok (.invokestatic 131, 3) := by decide +kernel
theorem dX10_part_26 : decode cX10_part 26 = .ok (.ifCond .eq 24, 3) := by decide +kernel
theorem dX10_part_29 : decode cX10_part 29 = .ok (.iload_n 2, 1) := by decide +kernel
theorem dX10_part_30 : decode cX10_part 30 = .ok (.bipush 10, 2) := by decide +kernel
theorem dX10_part_32 : decode cX10_part 32 = .ok (.idiv, 1) := by decide +kernel
theorem dX10_part_33 : decode cX10_part 33 = .ok (.iload_n 2, 1) := by decide +kernel
theorem dX10_part_34 : decode cX10_part 34 = .ok (.bipush 10, 2) := by decide +kernel
theorem dX10_part_36 : decode cX10_part 36 = .ok (.irem, 1) := by decide +kernel
theorem dX10_part_37 : decode cX10_part 37 = .ok (.if_icmp .eq 13, 3) := by decide +kernel
theorem dX10_part_40 : decode cX10_part 40 = .ok (.iload_n 3, 1) := by decide +kernel
theorem dX10_part_41 : decode cX10_part 41 = .ok (.iconst 1, 1) := by decide +kernel
theorem dX10_part_42 : decode cX10_part 42 = .ok (.bipush 9, 2) := by decide +kernel
theorem dX10_part_44 : decode cX10_part 44 = .ok (.invokestatic 114, 3) := by decide +kernel
theorem dX10_part_47 : decode cX10_part 47 = .ok (.ifCond .ne 5, 3) := by decide +kernel
theorem dX10_part_50 : decode cX10_part 50 = .ok (.iconst (-1), 1) := by decide +kernel
theorem dX10_part_51 : decode cX10_part 51 = .ok (.ireturn, 1) := by decide +kernel
theorem dX10_part_52 : decode cX10_part 52 = .ok (.iload_n 1, 1) := by decide +kernel
theorem dX10_part_53 : decode cX10_part 53 = .ok (.invokestatic 143, 3) := by decide +kernel
theorem dX10_part_56 : decode cX10_part 56 = .ok (.ifCond .eq 12, 3) := by decide +kernel
theorem dX10_part_59 : decode cX10_part 59 = .ok (.aload_n 0, 1) := by decide +kernel
theorem dX10_part_60 : decode cX10_part 60 = .ok (.iload 4, 2) := by decide +kernel
theorem dX10_part_62 : decode cX10_part 62 = .ok (.invokevirtual 146, 3) := by decide +kernel
theorem dX10_part_65 : decode cX10_part 65 = .ok (.ifCond .eq 20, 3) := by decide +kernel
theorem dX10_part_68 : decode cX10_part 68 = .ok (.iload_n 1, 1) := by decide +kernel
theorem dX10_part_69 : decode cX10_part 69 = .ok (.invokestatic 140, 3) := by decide +kernel
theorem dX10_part_72 : decode cX10_part 72 = .ok (.ifCond .eq 15, 3) := by decide +kernel
theorem dX10_part_75 : decode cX10_part 75 = .ok (.aload_n 0, 1) := by decide +kernel
theorem dX10_part_76 : decode cX10_part 76 = .ok (.iload_n 1, 1) := by decide +kernel
theorem dX10_part_77 : decode cX10_part 77 = .ok (.iload 5, 2) := by decide +kernel
theorem dX10_part_79 : decode cX10_part 79 = .ok (.invokevirtual 149, 3) := by decide +kernel
theorem dX10_part_82 : decode cX10_part 82 = .ok (.ifCond .ne 5, 3) := by decide +kernel
theorem dX10_part_85 : decode cX10_part 85 = .ok (.iconst (-1), 1) := by decide +kernel
theorem dX10_part_86 : decode cX10_part 86 = .ok (.ireturn, 1) := by decide +kernel
theorem dX10_part_87 : decode cX10_part 87 = .ok (.aload_n 0, 1) := by decide +kernel
theorem dX10_part_88 : decode cX10_part 88 = .ok (.getfield 111, 3) := by decide +kernel
theorem dX10_part_91 : decode cX10_part 91 = .ok (.bipush 10, 2) := by decide +kernel
theorem dX10_part_93 : decode cX10_part 93 = .ok (.if_icmp .ne 6, 3) := by decide +kernel
theorem dX10_part_96 : decode cX10_part 96 = .ok (.bipush (-2), 2) := by decide +kernel
theorem dX10_part_98 : decode cX10_part 98 = .ok (.ireturn, 1) := by decide +kernel
theorem dX10_part_99 : decode cX10_part 99 = .ok (.bipush 10, 2) := by decide +kernel
theorem dX10_part_101 : decode cX10_part 101 = .ok (.aload_n 0, 1) := by decide +kernel
theorem dX10_part_102 : decode cX10_part 102 = .ok (.getfield 111, 3) := by decide +kernel
theorem dX10_part_105 : decode cX10_part 105 = .ok (.imul, 1) := by decide +kernel
theorem dX10_part_106 : decode cX10_part 106 = .ok (.istore 6, 2) := by decide +kernel
theorem dX10_part_108 : decode cX10_part 108 = .ok (.aload_n 0, 1) := by decide +kernel
theorem dX10_part_109 : decode cX10_part 109 = .ok (.getfield 17, 3) := by decide +kernel
theorem dX10_part_112 : decode cX10_part 112 = .ok (.iload 6, 2) := by decide +kernel
theorem dX10_part_114 : decode cX10_part 114 = .ok (.iconst 0, 1) := by decide +kernel
theorem dX10_part_115 : decode cX10_part 115 = .ok (.iadd, 1) := by decide +kernel
theorem dX10_part_116 : decode cX10_part 116 = .ok (.iload_n 1, 1) := by decide +kernel
theorem dX10_part_117 : decode cX10_part 117 = .ok (.iastore, 1) := by decide +kernel
theorem dX10_part_118 : decode cX10_part 118 = .ok (.aload_n 0, 1) := by decide +kernel
theorem dX10_part_119 : decode cX10_part 119 = .ok (.getfield 17, 3) := by decide +kernel
theorem dX10_part_122 : decode cX10_part 122 = .ok (.iload 6, 2) := by decide +kernel
theorem dX10_part_124 : decode cX10_part 124 = .ok (.iconst 1, 1) := by decide +kernel
theorem dX10_part_125 : decode cX10_part 125 = .ok (.iadd, 1) := by decide +kernel
theorem dX10_part_126 : decode cX10_part 126 = .ok (.iload_n 2, 1) := by decide +kernel
theorem dX10_part_127 : decode cX10_part 127 = .ok (.bipush 10, 2) := by decide +kernel
theorem dX10_part_129 : decode cX10_part 129 = .ok (.idiv, 1) := by decide +kernel
theorem dX10_part_130 : decode cX10_part 130 = .ok (.iastore, 1) := by decide +kernel
theorem dX10_part_131 : decode cX10_part 131 = .ok (.aload_n 0, 1) := by decide +kernel
theorem dX10_part_132 : decode cX10_part 132 = .ok (.getfield 17, 3) := by decide +kernel
theorem dX10_part_135 : decode cX10_part 135 = .ok (.iload 6, 2) := by decide +kernel
theorem dX10_part_137 : decode cX10_part 137 = .ok (.iconst 2, 1) := by decide +kernel
theorem dX10_part_138 : decode cX10_part 138 = .ok (.iadd, 1) := by decide +kernel
theorem dX10_part_139 : decode cX10_part 139 = .ok (.iload_n 2, 1) := by decide +kernel
theorem dX10_part_140 : decode cX10_part 140 = .ok (.bipush 10, 2) := by decide +kernel
theorem dX10_part_142 : decode cX10_part 142 = .ok (.irem, 1) := by decide +kernel
theorem dX10_part_143 : decode cX10_part 143 = .ok (.iastore, 1) := by decide +kernel
theorem dX10_part_144 : decode cX10_part 144 = .ok (.aload_n 0, 1) := by decide +kernel
theorem dX10_part_145 : decode cX10_part 145 = .ok (.getfield 17, 3) := by decide +kernel
theorem dX10_part_148 : decode cX10_part 148 = .ok (.iload 6, 2) := by decide +kernel
theorem dX10_part_150 : decode cX10_part 150 = .ok (.iconst 3, 1) := by decide +kernel
theorem dX10_part_151 : decode cX10_part 151 = .ok (.iadd, 1) := by decide +kernel
theorem dX10_part_152 : decode cX10_part 152 = .ok (.iload_n 3, 1) := by decide +kernel
theorem dX10_part_153 : decode cX10_part 153 = .ok (.iastore, 1) := by decide +kernel
theorem dX10_part_154 : decode cX10_part 154 = .ok (.aload_n 0, 1) := by decide +kernel
theorem dX10_part_155 : decode cX10_part 155 = .ok (.getfield 17, 3) := by decide +kernel
