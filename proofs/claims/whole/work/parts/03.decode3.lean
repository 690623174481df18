theorem dX7_init_0 : decode cX7_init 0 = .ok (.aload_n 0, 1) := by decide +kernel
theorem dX7_init_1 : decode cX7_init 1 = .ok (.invokespecial 1, 3) := by decide +kernel
theorem dX7_init_4 : decode cX7_init 4 = .ok (.aload_n 0, 1) := by decide +kernel
theorem dX7_init_5 : decode cX7_init 5 = .ok (.sipush 200, 3) := by decide +kernel
theorem dX7_init_8 : decode cX7_init 8 = .ok (.newarray .int, 2) := by decide +kernel
theorem dX7_init_10 : decode cX7_init 10 = .ok (.putfield 7, 3) := by decide +kernel
theorem dX7_init_13 : decode cX7_init 13 = .ok (.aload_n 0, 1) := by decide +kernel
theorem dX7_init_14 : decode cX7_init 14 = .ok (.bipush 24, 2) := by decide +kernel
theorem dX7_init_16 : decode cX7_init 16 = .ok (.newarray .int, 2) := by decide +kernel
theorem dX7_init_18 : decode cX7_init 18 = .ok (.putfield 13, 3) := by decide +kernel
theorem dX7_init_21 : decode cX7_init 21 = .ok (.aload_n 0, 1) := by decide +kernel
theorem dX7_init_22 : decode cX7_init 22 = .ok (.bipush 24, 2) := by decide +kernel
theorem dX7_init_24 : decode cX7_init 24 = .ok (.newarray .int, 2) := by decide +kernel
theorem dX7_init_26 : decode cX7_init 26 = .ok (.putfield 16, 3) := by decide +kernel
theorem dX7_init_29 : decode cX7_init 29 = .ok (.aload_n 0, 1) := by decide +kernel
theorem dX7_init_30 : decode cX7_init 30 = .ok (.sipush 144, 3) := by decide +kernel
theorem dX7_init_33 : decode cX7_init 33 = .ok (.newarray .int, 2) := by decide +kernel
theorem dX7_init_35 : decode cX7_init 35 = .ok (.putfield 19, 3) := by decide +kernel
theorem dX7_init_38 : decode cX7_init 38 = .ok (.aload_n 0, 1) := by decide +kernel
theorem dX7_init_39 : decode cX7_init 39 = .ok (.sipush 160, 3) := by decide +kernel
theorem dX7_init_42 : decode cX7_init 42 = .ok (.newarray .int, 2) := by decide +kernel
theorem dX7_init_44 : decode cX7_init 44 = .ok (.putfield 22, 3) := by decide +kernel
theorem dX7_init_47 : decode cX7_init 47 = .ok (.aload_n 0, 1) := by decide +kernel
theorem dX7_init_48 : decode cX7_init 48 = .ok (.sipush 160, 3) := by decide +kernel
theorem dX7_init_51 : decode cX7_init 51 = .ok (.newarray .int, 2) := by decide +kernel
theorem dX7_init_53 : decode cX7_init 53 = .ok (.putfield 25, 3) := by decide +kernel
theorem dX7_init_56 : decode cX7_init 56 = .ok (.aload_n 0, 1) := by decide +kernel
theorem dX7_init_57 : decode cX7_init 57 = .ok (.sipush 160, 3) := by decide +kernel
theorem dX7_init_60 : decode cX7_init 60 = .ok (.newarray .int, 2) := by decide +kernel
theorem dX7_init_62 : decode cX7_init 62 = .ok (.putfield 28, 3) := by decide +kernel
theorem dX7_init_65 : decode cX7_init 65 = .ok (.aload_n 0, 1) := by decide +kernel
theorem dX7_init_66 : decode cX7_init 66 = .ok (.sipush 160, 3) := by decide +kernel
theorem dX7_init_69 : decode cX7_init 69 = .ok (.newarray .int, 2) := by decide +kernel
theorem dX7_init_71 : decode cX7_init 71 = .ok (.putfield 31, 3) := by decide +kernel
theorem dX7_init_74 : decode cX7_init 74 = .ok (.aload_n 0, 1) := by decide +kernel
theorem dX7_init_75 : decode cX7_init 75 = .ok (.sipush 160, 3) := by decide +kernel
theorem dX7_init_78 : decode cX7_init 78 = .ok (.newarray .int, 2) := by decide +kernel
theorem dX7_init_80 : decode cX7_init 80 = .ok (.putfield 34, 3) := by decide +kernel
theorem dX7_init_83 : decode cX7_init 83 = .ok (.aload_n 0, 1) := by decide +kernel
theorem dX7_init_84 : decode cX7_init 84 = .ok (.iconst 0, 1) := by decide +kernel
theorem dX7_init_85 : decode cX7_init 85 = .ok (.iconst 0, 1) := by decide +kernel
theorem dX7_init_86 : decode cX7_init 86 = .ok (.bipush 7, 2) := by decide +kernel
theorem dX7_init_88 : decode cX7_init 88 = .ok (.iconst 1, 1) := by decide +kernel
theorem dX7_init_89 : decode cX7_init 89 = .ok (.iconst 0, 1) := by decide +kernel
theorem dX7_init_90 : decode cX7_init 90 = .ok (.bipush 14, 2) := by decide +kernel
theorem dX7_init_92 : decode cX7_init 92 = .ok (.invokevirtual 37, 3) := by decide +kernel
theorem dX7_init_95 : decode cX7_init 95 = .ok (.aload_n 0, 1) := by decide +kernel
theorem dX7_init_96 : decode cX7_init 96 = .ok (.iconst 1, 1) := by decide +kernel
theorem dX7_init_97 : decode cX7_init 97 = .ok (.iconst 1, 1) := by decide +kernel
theorem dX7_init_98 : decode cX7_init 98 = .ok (.bipush 11, 2) := by decide +kernel
theorem dX7_init_100 : decode cX7_init 100 = .ok (.iconst 2, 1) := by decide +kernel
theorem dX7_init_101 : decode cX7_init 101 = .ok (.iconst 3, 1) := by decide +kernel
theorem dX7_init_102 : decode cX7_init 102 = .ok (.bipush 10, 2) := by decide +kernel
theorem dX7_init_104 : decode cX7_init 104 = .ok (.invokevirtual 37, 3) := by decide +kernel
theorem dX7_init_107 : decode cX7_init 107 = .ok (.aload_n 0, 1) := by decide +kernel
theorem dX7_init_108 : decode cX7_init 108 = .ok (.iconst 2, 1) := by decide +kernel
theorem dX7_init_109 : decode cX7_init 109 = .ok (.iconst 2, 1) := by decide +kernel
theorem dX7_init_110 : decode cX7_init 110 = .ok (.bipush 13, 2) := by decide +kernel
theorem dX7_init_112 : decode cX7_init 112 = .ok (.iconst 4, 1) := by decide +kernel
theorem dX7_init_113 : decode cX7_init 113 = .ok (.iconst 0, 1) := by decide +kernel
theorem dX7_init_114 : decode cX7_init 114 = .ok (.bipush 13, 2) := by decide +kernel
theorem dX7_init_116 : decode cX7_init 116 = .ok (.invokevirtual 37, 3) := by decide +kernel
theorem dX7_init_119 : decode cX7_init 119 = .ok (.aload_n 0, 1) := by decide +kernel
theorem dX7_init_120 : decode cX7_init 120 = .ok (.getfield 13, 3) := by decide +kernel
theorem dX7_init_123 : decode cX7_init 123 = .ok (.bipush 20, 2) := by decide +kernel
theorem dX7_init_125 : decode cX7_init 125 = .ok (.iconst 3, 1) := by decide +kernel
theorem dX7_init_126 : decode cX7_init 126 = .ok (.iastore, 1) := by decide +kernel
theorem dX7_init_127 : decode cX7_init 127 = .ok (.aload_n 0, 1) := by decide +kernel
theorem dX7_init_128 : decode cX7_init 128 = .ok (.getfield 13, 3) := by decide +kernel
theorem dX7_init_131 : decode cX7_init 131 = .ok (.bipush 21, 2) := by decide +kernel
theorem dX7_init_133 : decode cX7_init 133 = .ok (.iconst 3, 1) := by decide +kernel
theorem dX7_init_134 : decode cX7_init 134 = .ok (.iastore, 1) := by decide +kernel
theorem dX7_init_135 : decode cX7_init 135 = .ok (.aload_n 0, 1) := by decide +kernel
theorem dX7_init_136 : decode cX7_init 136 = .ok (.getfield 13, 3) := by decide +kernel
theorem dX7_init_139 : decode cX7_init 139 = .ok (.bipush 22, 2) := by decide +kernel
theorem dX7_init_141 : decode cX7_init 141 = .ok (.bipush 40, 2) := by decide +kernel
theorem dX7_init_143 : decode cX7_init 143 = .ok (.iastore, 1) := by decide +kernel
theorem dX7_init_144 : decode cX7_init 144 = .ok (.aload_n 0, 1) := by decide +kernel
theorem dX7_init_145 : decode cX7_init 145 = .ok (.getfield 13, 3) := by decide +kernel
theorem dX7_init_148 : decode cX7_init 148 = .ok (.bipush 23, 2) := by decide +kernel
theorem dX7_init_150 : decode cX7_init 150 = .ok (.iconst 1, 1) := by decide +kernel
theorem dX7_init_151 : decode cX7_init 151 = .ok (.iastore, 1) := by decide +kernel
theorem dX7_init_152 : decode cX7_init 152 = .ok (.return_, 1) := by decide +kernel
theorem dX7_tells_0 : decode cX7_tells 0 = .ok (.aload_n 0, 1) := by decide +kernel
theorem dX7_tells_1 : decode cX7_tells 1 = .ok (.getfield 13, 3) := by decide +kernel
theorem dX7_tells_4 : decode cX7_tells 4 = .ok (.iconst 5, 1) := by decide +kernel
theorem dX7_tells_5 : decode cX7_tells 5 = .ok (.iload_n 1, 1) := by decide +kernel
theorem dX7_tells_6 : decode cX7_tells 6 = .ok (.imul, 1) := by decide +kernel
theorem dX7_tells_7 : decode cX7_tells 7 = .ok (.iload_n 2, 1) := by decide +kernel
theorem dX7_tells_8 : decode cX7_tells 8 = .ok (.iastore, 1) := by decide +kernel
theorem dX7_tells_9 : decode cX7_tells 9 = .ok (.aload_n 0, 1) := by decide +kernel
theorem dX7_tells_10 : decode cX7_tells 10 = .ok (.getfield 13, 3) := by decide +kernel
theorem dX7_tells_13 : decode cX7_tells 13 = .ok (.iconst 5, 1) := by decide +kernel
theorem dX7_tells_14 : decode cX7_tells 14 = .ok (.iload_n 1, 1) := by decide +kernel
theorem dX7_tells_15 : decode cX7_tells 15 = .ok (.imul, 1) := by decide +kernel
theorem dX7_tells_16 : decode cX7_tells 16 = .ok (.iconst 1, 1) := by decide +kernel
theorem dX7_tells_17 : decode cX7_tells 17 = .ok (.iadd, 1) := by decide +kernel
theorem dX7_tells_18 : decode cX7_tells 18 = .ok (.iload_n 3, 1) := by decide +kernel
theorem dX7_tells_19 : decode cX7_tells 19 = .ok (.iastore, 1) := by decide +kernel
theorem dX7_tells_20 : decode cX7_tells 20 = .ok (.aload_n 0, 1) := by decide +kernel
theorem dX7_tells_21 : decode cX7_tells 21 = .ok (.getfield 13, 3) := by decide +kernel
theorem dX7_tells_24 : decode cX7_tells 24 = .ok (.iconst 5, 1) := by decide +kernel
theorem dX7_tells_25 : decode cX7_tells 25 = .ok (.iload_n 1, 1) := by decide +kernel
theorem dX7_tells_26 : decode cX7_tells 26 = .ok (.imul, 1) := by decide +kernel
theorem dX7_tells_27 : decode cX7_tells 27 = .ok (.iconst 2, 1) := by decide +kernel
theorem dX7_tells_28 : decode cX7_tells 28 = .ok (.iadd, 1) := by decide +kernel
theorem dX7_tells_29 : decode cX7_tells 29 = .ok (.iload 4, 2) := by decide +kernel
theorem dX7_tells_31 : decode cX7_tells 31 = .ok (.iastore, 1) := by decide +kernel
theorem dX7_tells_32 : decode cX7_tells 32 = .ok (.aload_n 0, 1) := by decide +kernel
theorem dX7_tells_33 : decode cX7_tells 33 = .ok (.getfield 13, 3) := by decide +kernel
theorem dX7_tells_36 : decode cX7_tells 36 = .ok (.iconst 5, 1) := by decide +kernel
theorem dX7_tells_37 : decode cX7_tells 37 = .ok (.iload_n 1, 1) := by decide +kernel
theorem dX7_tells_38 : decode cX7_tells 38 = .ok (.imul, 1) := by decide +kernel
theorem dX7_tells_39 : decode cX7_tells 39 = .ok (.iconst 3, 1) := by decide +kernel
theorem dX7_tells_40 : decode cX7_tells 40 = .ok (.iadd, 1) := by decide +kernel
theorem dX7_tells_41 : decode cX7_tells 41 = .ok (.iload 5, 2) := by decide +kernel
theorem dX7_tells_43 : decode cX7_tells 43 = .ok (.iastore, 1) := by decide +kernel
theorem dX7_tells_44 : decode cX7_tells 44 = .ok (.aload_n 0, 1) := by decide +kernel
theorem dX7_tells_45 : decode cX7_tells 45 = .ok (.getfield 13, 3) := by decide +kernel
theorem dX7_tells_48 : decode cX7_tells 48 = .ok (.iconst 5, 1) := by decide +kernel
theorem dX7_tells_49 : decode cX7_tells 49 = .ok (.iload_n 1, 1) := by decide +kernel
theorem dX7_tells_50 : decode cX7_tells 50 = .ok (.imul, 1) := by decide +kernel
theorem dX7_tells_51 : decode cX7_tells 51 = .ok (.iconst 4, 1) := by decide +kernel
theorem dX7_tells_52 : decode cX7_tells 52 = .ok (.iadd, 1) := by decide +kernel
theorem dX7_tells_53 : decode cX7_tells 53 = .ok (.iload 6, 2) := by decide +kernel
theorem dX7_tells_55 : decode cX7_tells 55 = .ok (.iastore, 1) := by decide +kernel
theorem dX7_tells_56 : decode cX7_tells 56 = .ok (.return_, 1) := by decide +kernel
theorem dX7_in_0 : decode cX7_in 0 = .ok (.lload_n 0, 1) := by decide +kernel
theorem dX7_in_1 : decode cX7_in 1 = .ok (.lload_n 2, 1) := by decide +kernel
theorem dX7_in_2 : decode cX7_in 2 = .ok (.lcmp, 1) := by decide +kernel
theorem dX7_in_3 : decode cX7_in 3 = .ok (.ifCond .lt 14, 3) := by decide +kernel
theorem dX7_in_6 : decode cX7_in 6 = .ok (.lload_n 0, 1) := by decide +kernel
theorem dX7_in_7 : decode cX7_in 7 = .ok (.lload 4, 2) := by decide +kernel
theorem dX7_in_9 : decode cX7_in 9 = .ok (.lcmp, 1) := by decide +kernel
theorem dX7_in_10 : decode cX7_in 10 = .ok (.ifCond .gt 7, 3) := by decide +kernel
theorem dX7_in_13 : decode cX7_in 13 = .ok (.iconst 1, 1) := by decide +kernel
theorem dX7_in_14 : decode cX7_in 14 = .ok (.goto 4, 3) := by decide +kernel
theorem dX7_in_17 : decode cX7_in 17 = .ok (.iconst 0, 1) := by decide +kernel
theorem dX7_in_18 : decode cX7_in 18 = .ok (.ireturn, 1) := by decide +kernel
theorem dX7_isPrime_0 : decode cX7_isPrime 0 = .ok (.iload_n 0, 1) := by decide +kernel
theorem dX7_isPrime_1 : decode cX7_isPrime 1 = .ok (.iconst 2, 1) := by decide +kernel
theorem dX7_isPrime_2 : decode cX7_isPrime 2 = .ok (.if_icmp .le 13, 3) := by decide +kernel
theorem dX7_isPrime_5 : decode cX7_isPrime 5 = .ok (.iload_n 0, 1) := by decide +kernel
theorem dX7_isPrime_6 : decode cX7_isPrime 6 = .ok (.bipush 32, 2) := by decide +kernel
theorem dX7_isPrime_8 : decode cX7_isPrime 8 = .ok (.if_icmp .ge 7, 3) := by decide +kernel
theorem dX7_isPrime_11 : decode cX7_isPrime 11 = .ok (.iconst 1, 1) := by decide +kernel
theorem dX7_isPrime_12 : decode cX7_isPrime 12 = .ok (.goto 4, 3) := by decide +kernel
theorem dX7_isPrime_15 : decode cX7_isPrime 15 = .ok (.iconst 0, 1) := by decide +kernel
theorem dX7_isPrime_16 : decode cX7_isPrime 16 = .ok (.istore_n 1, 1) := by decide +kernel
theorem dX7_isPrime_17 : decode cX7_isPrime 17 = .ok (.iconst 2, 1) := by decide +kernel
theorem dX7_isPrime_18 : decode cX7_isPrime 18 = .ok (.istore_n 2, 1) := by decide +kernel
theorem dX7_isPrime_19 : decode cX7_isPrime 19 = .ok (.iload_n 2, 1) := by decide +kernel
theorem dX7_isPrime_20 : decode cX7_isPrime 20 = .ok (.iload_n 2, 1) := by decide +kernel
theorem dX7_isPrime_21 : decode cX7_isPrime 21 = .ok (.imul, 1) := by decide +kernel
theorem dX7_isPrime_22 : decode cX7_isPrime 22 = .ok (.iload_n 0, 1) := by decide +kernel
theorem dX7_isPrime_23 : decode cX7_isPrime 23 = .ok (.if_icmp .gt 25, 3) := by decide +kernel
theorem dX7_isPrime_26 : decode cX7_isPrime 26 = .ok (.iload_n 1, 1) := by decide +kernel
theorem dX7_isPrime_27 : decode cX7_isPrime 27 = .ok (.ifCond .eq 21, 3) := by decide +kernel
theorem dX7_isPrime_30 : decode cX7_isPrime 30 = .ok (.iload_n 0, 1) := by decide +kernel
theorem dX7_isPrime_31 : decode cX7_isPrime 31 = .ok (.iload_n 2, 1) := by decide +kernel
theorem dX7_isPrime_32 : decode cX7_isPrime 32 = .ok (.irem, 1) := by decide +kernel
theorem dX7_isPrime_33 : decode cX7_isPrime 33 = .ok (.ifCond .eq 7, 3) := by decide +kernel
theorem dX7_isPrime_36 : decode cX7_isPrime 36 = .ok (.iconst 1, 1) := by decide +kernel
theorem dX7_isPrime_37 : decode cX7_isPrime 37 = .ok (.goto 4, 3) := by decide +kernel
theorem dX7_isPrime_40 : decode cX7_isPrime 40 = .ok (.iconst 0, 1) := by decide +kernel
theorem dX7_isPrime_41 : decode cX7_isPrime 41 = .ok (.istore_n 1, 1) := by decide +kernel
theorem dX7_isPrime_42 : decode cX7_isPrime 42 = .ok (.iinc 2 1, 3) := by decide +kernel
theorem dX7_isPrime_45 : decode cX7_isPrime 45 = .ok (.goto (-26), 3) := by decide +kernel
theorem dX7_isPrime_48 : decode cX7_isPrime 48 = .ok (.iload_n 1, 1) := by decide +kernel
theorem dX7_isPrime_49 : decode cX7_isPrime 49 = .ok (.ireturn, 1) := by decide +kernel
theorem dX7_signOf_0 : decode cX7_signOf 0 = .ok (.iload_n 0, 1) := by decide +kernel
theorem dX7_signOf_1 : decode cX7_signOf 1 = .ok (.iload_n 1, 1) := by decide +kernel
theorem dX7_signOf_2 : decode cX7_signOf 2 = .ok (.irem, 1) := by decide +kernel
theorem dX7_signOf_3 : decode cX7_signOf 3 = .ok (.istore_n 2, 1) := by decide +kernel
theorem dX7_signOf_4 : decode cX7_signOf 4 = .ok (.iconst 1, 1) := by decide +kernel
theorem dX7_signOf_5 : decode cX7_signOf 5 = .ok (.istore_n 3, 1) := by decide +kernel
theorem dX7_signOf_6 : decode cX7_signOf 6 = .ok (.iload_n 3, 1) := by decide +kernel
theorem dX7_signOf_7 : decode cX7_signOf 7 = .ok (.iload_n 1, 1) := by decide +kernel
theorem dX7_signOf_8 : decode cX7_signOf 8 = .ok (.if_icmp .ge 24, 3) := by decide +kernel
theorem dX7_signOf_11 : decode cX7_signOf 11 = .ok (.iload_n 2, 1) := by decide +kernel
theorem dX7_signOf_12 : decode cX7_signOf 12 = .ok (.ifCond .le 20, 3) := by decide +kernel
theorem dX7_signOf_15 : decode cX7_signOf 15 = .ok (.iload_n 3, 1) := by decide +kernel
theorem dX7_signOf_16 : decode cX7_signOf 16 = .ok (.iload_n 3, 1) := by decide +kernel
theorem dX7_signOf_17 : decode cX7_signOf 17 = .ok (.imul, 1) := by decide +kernel
theorem dX7_signOf_18 : decode cX7_signOf 18 = .ok (.iload_n 1, 1) := by decide +kernel
theorem dX7_signOf_19 : decode cX7_signOf 19 = .ok (.irem, 1) := by decide +kernel
theorem dX7_signOf_20 : decode cX7_signOf 20 = .ok (.iload_n 2, 1) := by decide +kernel
theorem dX7_signOf_21 : decode cX7_signOf 21 = .ok (.if_icmp .ne 5, 3) := by decide +kernel
theorem dX7_signOf_24 : decode cX7_signOf 24 = .ok (.iconst 1, 1) := by decide +kernel
theorem dX7_signOf_25 : decode cX7_signOf 25 = .ok (.ireturn, 1) := by decide +kernel
theorem dX7_signOf_26 : decode cX7_signOf 26 = .ok (.iinc 3 1, 3) := by decide +kernel
theorem dX7_signOf_29 : decode cX7_signOf 29 = .ok (.goto (-23), 3) := by decide +kernel
theorem dX7_signOf_32 : decode cX7_signOf 32 = .ok (.iload_n 2, 1) := by decide +kernel
theorem dX7_signOf_33 : decode cX7_signOf 33 = .ok (.ifCond .ne 7, 3) := by decide +kernel
theorem dX7_signOf_36 : decode cX7_signOf 36 = .ok (.iconst 0, 1) := by decide +kernel
theorem dX7_signOf_37 : decode cX7_signOf 37 = .ok (.goto 4, 3) := by decide +kernel
theorem dX7_signOf_40 : decode cX7_signOf 40 = .ok (.iconst (-1), 1) := by decide +kernel
theorem dX7_signOf_41 : decode cX7_signOf 41 = .ok (.ireturn, 1) := by decide +kernel
theorem dX7_isRoot_0 : decode cX7_isRoot 0 = .ok (.iload_n 0, 1) := by decide +kernel
theorem dX7_isRoot_1 : decode cX7_isRoot 1 = .ok (.i2l, 1) := by decide +kernel
theorem dX7_isRoot_2 : decode cX7_isRoot 2 = .ok (.ldc2_w 41, 3) := by decide +kernel
theorem dX7_isRoot_5 : decode cX7_isRoot 5 = .ok (.iload_n 1, 1) := by decide +kernel
theorem dX7_isRoot_6 : decode cX7_isRoot 6 = .ok (.iconst 1, 1) := by decide +kernel
theorem dX7_isRoot_7 : decode cX7_isRoot 7 = .ok (.isub, 1) := by decide +kernel
theorem dX7_isRoot_8 : decode cX7_isRoot 8 = .ok (.i2l, 1) := by decide +kernel
theorem dX7_isRoot_9 : decode cX7_isRoot 9 = .ok (.invokestatic 43, 3) := by decide +kernel
theorem dX7_isRoot_12 : decode cX7_isRoot 12 = .ok (.ifCond .ne 5, 3) := by decide +kernel
theorem dX7_isRoot_15 : decode cX7_isRoot 15 = .ok (.iconst 0, 1) := by decide +kernel
theorem dX7_isRoot_16 : decode cX7_isRoot 16 = .ok (.ireturn, 1) := by decide +kernel
theorem dX7_isRoot_17 : decode cX7_isRoot 17 = .ok (.iload_n 0, 1) := by decide +kernel
theorem dX7_isRoot_18 : decode cX7_isRoot 18 = .ok (.istore_n 2, 1) := by decide +kernel
theorem dX7_isRoot_19 : decode cX7_isRoot 19 = .ok (.iconst 1, 1) := by decide +kernel
theorem dX7_isRoot_20 : decode cX7_isRoot 20 = .ok (.istore_n 3, 1) := by decide +kernel
theorem dX7_isRoot_21 : decode cX7_isRoot 21 = .ok (.iload_n 2, 1) := by decide +kernel
theorem dX7_isRoot_22 : decode cX7_isRoot 22 = .ok (.iconst 1, 1) := by decide +kernel
theorem dX7_isRoot_23 : decode cX7_isRoot 23 = .ok (.if_icmp .eq 15, 3) := by decide +kernel
theorem dX7_isRoot_26 : decode cX7_isRoot 26 = .ok (.iload_n 2, 1) := by decide +kernel
theorem dX7_isRoot_27 : decode cX7_isRoot 27 = .ok (.iload_n 0, 1) := by decide +kernel
theorem dX7_isRoot_28 : decode cX7_isRoot 28 = .ok (.imul, 1) := by decide +kernel
theorem dX7_isRoot_29 : decode cX7_isRoot 29 = .ok (.iload_n 1, 1) := by decide +kernel
theorem dX7_isRoot_30 : decode cX7_isRoot 30 = .ok (.irem, 1) := by decide +kernel
theorem dX7_isRoot_31 : decode cX7_isRoot 31 = .ok (.istore_n 2, 1) := by decide +kernel
theorem dX7_isRoot_32 : decode cX7_isRoot 32 = .ok (.iinc 3 1, 3) := by decide +kernel
theorem dX7_isRoot_35 : decode cX7_isRoot 35 = .ok (.goto (-14), 3) := by decide +kernel
theorem dX7_isRoot_38 : decode cX7_isRoot 38 = .ok (.iload_n 3, 1) := by decide +kernel
theorem dX7_isRoot_39 : decode cX7_isRoot 39 = .ok (.iload_n 1, 1) := by decide +kernel
theorem dX7_isRoot_40 : decode cX7_isRoot 40 = .ok (.iconst 1, 1) := by decide +kernel
theorem dX7_isRoot_41 : decode cX7_isRoot 41 = .ok (.isub, 1) := by decide +kernel
theorem dX7_isRoot_42 : decode cX7_isRoot 42 = .ok (.if_icmp .ne 7, 3) := by decide +kernel
theorem dX7_isRoot_45 : decode cX7_isRoot 45 = .ok (.iconst 1, 1) := by decide +kernel
theorem dX7_isRoot_46 : decode cX7_isRoot 46 = .ok (.goto 4, 3) := by decide +kernel
theorem dX7_isRoot_49 : decode cX7_isRoot 49 = .ok (.iconst 0, 1) := by decide +kernel
theorem dX7_isRoot_50 : decode cX7_isRoot 50 = .ok (.ireturn, 1) := by decide +kernel
theorem dX7_squares_0 : decode cX7_squares 0 = .ok (.iload_n 1, 1) := by decide +kernel
theorem dX7_squares_1 : decode cX7_squares 1 = .ok (.invokestatic 47, 3) := by decide +kernel
theorem dX7_squares_4 : decode cX7_squares 4 = .ok (.ifCond .ne 5, 3) := by decide +kernel
theorem dX7_squares_7 : decode cX7_squares 7 = .ok (.iconst (-1), 1) := by decide +kernel
theorem dX7_squares_8 : decode cX7_squares 8 = .ok (.ireturn, 1) := by decide +kernel
theorem dX7_squares_9 : decode cX7_squares 9 = .ok (.iconst 0, 1) := by decide +kernel
theorem dX7_squares_10 : decode cX7_squares 10 = .ok (.istore_n 2, 1) := by decide +kernel
theorem dX7_squares_11 : decode cX7_squares 11 = .ok (.iconst 1, 1) := by decide +kernel
theorem dX7_squares_12 : decode cX7_squares 12 = .ok (.istore_n 3, 1) := by decide +kernel
theorem dX7_squares_13 : decode cX7_squares 13 = .ok (.iload_n 3, 1) := by decide +kernel
theorem dX7_squares_14 : decode cX7_squares 14 = .ok (.iload_n 1, 1) := by decide +kernel
theorem dX7_squares_15 : decode cX7_squares 15 = .ok (.if_icmp .ge 19, 3) := by decide +kernel
theorem dX7_squares_18 : decode cX7_squares 18 = .ok (.iload_n 2, 1) := by decide +kernel
theorem dX7_squares_19 : decode cX7_squares 19 = .ok (.iconst 1, 1) := by decide +kernel
theorem dX7_squares_20 : decode cX7_squares 20 = .ok (.iload_n 3, 1) := by decide +kernel
theorem dX7_squares_21 : decode cX7_squares 21 = .ok (.iload_n 3, 1) := by decide +kernel
theorem dX7_squares_22 : decode cX7_squares 22 = .ok (.imul, 1) := by decide +kernel
theorem dX7_squares_23 : decode cX7_squares 23 = .ok (.iload_n 1, 1) := by decide +kernel
theorem dX7_squares_24 : decode cX7_squares 24 = .ok (.irem, 1) := by decide +kernel
theorem dX7_squares_25 : decode cX7_squares 25 = .ok (.ishl, 1) := by decide +kernel
theorem dX7_squares_26 : decode cX7_squares 26 = .ok (.ior, 1) := by decide +kernel
theorem dX7_squares_27 : decode cX7_squares 27 = .ok (.istore_n 2, 1) := by decide +kernel
theorem dX7_squares_28 : decode cX7_squares 28 = .ok (.iinc 3 1, 3) := by decide +kernel
theorem dX7_squares_31 : decode cX7_squares 31 = .ok (.goto (-18), 3) := by decide +kernel
theorem dX7_squares_34 : decode cX7_squares 34 = .ok (.iload_n 2, 1) := by decide +kernel
theorem dX7_squares_35 : decode cX7_squares 35 = .ok (.ireturn, 1) := by decide +kernel
theorem dX7_sign_0 : decode cX7_sign 0 = .ok (.iload_n 1, 1) := by decide +kernel
theorem dX7_sign_1 : decode cX7_sign 1 = .ok (.i2l, 1) := by decide +kernel
theorem dX7_sign_2 : decode cX7_sign 2 = .ok (.lconst 0, 1) := by decide +kernel
theorem dX7_sign_3 : decode cX7_sign 3 = .ok (.ldc2_w 51, 3) := by decide +kernel
theorem dX7_sign_6 : decode cX7_sign 6 = .ok (.invokestatic 43, 3) := by decide +kernel
theorem dX7_sign_9 : decode cX7_sign 9 = .ok (.ifCond .eq 20, 3) := by decide +kernel
theorem dX7_sign_12 : decode cX7_sign 12 = .ok (.iload_n 2, 1) := by decide +kernel
theorem dX7_sign_13 : decode cX7_sign 13 = .ok (.invokestatic 47, 3) := by decide +kernel
theorem dX7_sign_16 : decode cX7_sign 16 = .ok (.ifCond .eq 13, 3) := by decide +kernel
theorem dX7_sign_19 : decode cX7_sign 19 = .ok (.iload_n 1, 1) := by decide +kernel
theorem dX7_sign_20 : decode cX7_sign 20 = .ok (.iload_n 2, 1) := by decide +kernel
theorem dX7_sign_21 : decode cX7_sign 21 = .ok (.invokestatic 53, 3) := by decide +kernel
theorem dX7_sign_24 : decode cX7_sign 24 = .ok (.iconst 1, 1) := by decide +kernel
theorem dX7_sign_25 : decode cX7_sign 25 = .ok (.iadd, 1) := by decide +kernel
theorem dX7_sign_26 : decode cX7_sign 26 = .ok (.goto 4, 3) := by decide +kernel
theorem dX7_sign_29 : decode cX7_sign 29 = .ok (.iconst (-1), 1) := by decide +kernel
theorem dX7_sign_30 : decode cX7_sign 30 = .ok (.ireturn, 1) := by decide +kernel
theorem dX7_root_0 : decode cX7_root 0 = .ok (.iload_n 1, 1) := by decide +kernel
theorem dX7_root_1 : decode cX7_root 1 = .ok (.invokestatic 47, 3) := by decide +kernel
theorem dX7_root_4 : decode cX7_root 4 = .ok (.ifCond .eq 13, 3) := by decide +kernel
theorem dX7_root_7 : decode cX7_root 7 = .ok (.iload_n 2, 1) := by decide +kernel
theorem dX7_root_8 : decode cX7_root 8 = .ok (.i2l, 1) := by decide +kernel
theorem dX7_root_9 : decode cX7_root 9 = .ok (.lconst 0, 1) := by decide +kernel
theorem dX7_root_10 : decode cX7_root 10 = .ok (.lconst 1, 1) := by decide +kernel
theorem dX7_root_11 : decode cX7_root 11 = .ok (.invokestatic 43, 3) := by decide +kernel
theorem dX7_root_14 : decode cX7_root 14 = .ok (.ifCond .ne 5, 3) := by decide +kernel
theorem dX7_root_17 : decode cX7_root 17 = .ok (.iconst (-1), 1) := by decide +kernel
theorem dX7_root_18 : decode cX7_root 18 = .ok (.ireturn, 1) := by decide +kernel
theorem dX7_root_19 : decode cX7_root 19 = .ok (.iconst 0, 1) := by decide +kernel
theorem dX7_root_20 : decode cX7_root 20 = .ok (.istore_n 3, 1) := by decide +kernel
theorem dX7_root_21 : decode cX7_root 21 = .ok (.iconst 0, 1) := by decide +kernel
theorem dX7_root_22 : decode cX7_root 22 = .ok (.istore 4, 2) := by decide +kernel
theorem dX7_root_24 : decode cX7_root 24 = .ok (.iload_n 1, 1) := by decide +kernel
theorem dX7_root_25 : decode cX7_root 25 = .ok (.iconst 1, 1) := by decide +kernel
theorem dX7_root_26 : decode cX7_root 26 = .ok (.isub, 1) := by decide +kernel
theorem dX7_root_27 : decode cX7_root 27 = .ok (.istore 5, 2) := by decide +kernel
theorem dX7_root_29 : decode cX7_root 29 = .ok (.iload 5, 2) := by decide +kernel
theorem dX7_root_31 : decode cX7_root 31 = .ok (.iconst 1, 1) := by decide +kernel
theorem dX7_root_32 : decode cX7_root 32 = .ok (.if_icmp .le 44, 3) := by decide +kernel
theorem dX7_root_35 : decode cX7_root 35 = .ok (.iload 5, 2) := by decide +kernel
theorem dX7_root_37 : decode cX7_root 37 = .ok (.iload_n 1, 1) := by decide +kernel
theorem dX7_root_38 : decode cX7_root 38 = .ok (.invokestatic 57, 3) := by decide +kernel
theorem dX7_root_41 : decode cX7_root 41 = .ok (.istore 6, 2) := by decide +kernel
theorem dX7_root_43 : decode cX7_root 43 = .ok (.iload_n 3, 1) := by decide +kernel
theorem dX7_root_44 : decode cX7_root 44 = .ok (.iload 6, 2) := by decide +kernel
theorem dX7_root_46 : decode cX7_root 46 = .ok (.ifCond .eq 7, 3) := by decide +kernel
theorem dX7_root_49 : decode cX7_root 49 = .ok (.iconst 1, 1) := by decide +kernel
theorem dX7_root_50 : decode cX7_root 50 = .ok (.goto 4, 3) := by decide +kernel
theorem dX7_root_53 : decode cX7_root 53 = .ok (.iconst 0, 1) := by decide +kernel
theorem dX7_root_54 : decode cX7_root 54 = .ok (.iadd, 1) := by decide +kernel
theorem dX7_root_55 : decode cX7_root 55 = .ok (.istore_n 3, 1) := by decide +kernel
theorem dX7_root_56 : decode cX7_root 56 = .ok (.iload 6, 2) := by decide +kernel
theorem dX7_root_58 : decode cX7_root 58 = .ok (.ifCond .eq 8, 3) := by decide +kernel
theorem dX7_root_61 : decode cX7_root 61 = .ok (.iload 5, 2) := by decide +kernel
theorem dX7_root_63 : decode cX7_root 63 = .ok (.goto 5, 3) := by decide +kernel
theorem dX7_root_66 : decode cX7_root 66 = .ok (.iload 4, 2) := by decide +kernel
theorem dX7_root_68 : decode cX7_root 68 = .ok (.istore 4, 2) := by decide +kernel
theorem dX7_root_70 : decode cX7_root 70 = .ok (.iinc 5 (-1), 3) := by decide +kernel
theorem dX7_root_73 : decode cX7_root 73 = .ok (.goto (-44), 3) := by decide +kernel
theorem dX7_root_76 : decode cX7_root 76 = .ok (.iload_n 2, 1) := by decide +kernel
theorem dX7_root_77 : decode cX7_root 77 = .ok (.ifCond .ne 8, 3) := by decide +kernel
theorem dX7_root_80 : decode cX7_root 80 = .ok (.iload 4, 2) := by decide +kernel
theorem dX7_root_82 : decode cX7_root 82 = .ok (.goto 4, 3) := by decide +kernel
theorem dX7_root_85 : decode cX7_root 85 = .ok (.iload_n 3, 1) := by decide +kernel
theorem dX7_root_86 : decode cX7_root 86 = .ok (.ireturn, 1) := by decide +kernel
theorem dX7_law_0 : decode cX7_law 0 = .ok (.iload_n 1, 1) := by decide +kernel
theorem dX7_law_1 : decode cX7_law 1 = .ok (.invokestatic 47, 3) := by decide +kernel
theorem dX7_law_4 : decode cX7_law 4 = .ok (.ifCond .eq 31, 3) := by decide +kernel
theorem dX7_law_7 : decode cX7_law 7 = .ok (.iload_n 2, 1) := by decide +kernel
theorem dX7_law_8 : decode cX7_law 8 = .ok (.invokestatic 47, 3) := by decide +kernel
theorem dX7_law_11 : decode cX7_law 11 = .ok (.ifCond .eq 24, 3) := by decide +kernel
theorem dX7_law_14 : decode cX7_law 14 = .ok (.iload_n 1, 1) := by decide +kernel
theorem dX7_law_15 : decode cX7_law 15 = .ok (.iload_n 2, 1) := by decide +kernel
theorem dX7_law_16 : decode cX7_law 16 = .ok (.if_icmp .eq 19, 3) := by decide +kernel
theorem dX7_law_19 : decode cX7_law 19 = .ok (.iload_n 1, 1) := by decide +kernel
theorem dX7_law_20 : decode cX7_law 20 = .ok (.iload_n 2, 1) := by decide +kernel
theorem dX7_law_21 : decode cX7_law 21 = .ok (.invokestatic 53, 3) := by decide +kernel
theorem dX7_law_24 : decode cX7_law 24 = .ok (.iload_n 2, 1) := by decide +kernel
theorem dX7_law_25 : decode cX7_law 25 = .ok (.iload_n 1, 1) := by decide +kernel
theorem dX7_law_26 : decode cX7_law 26 = .ok (.invokestatic 53, 3) := by decide +kernel
theorem dX7_law_29 : decode cX7_law 29 = .ok (.imul, 1) := by decide +kernel
theorem dX7_law_30 : decode cX7_law 30 = .ok (.iconst 1, 1) := by decide +kernel
theorem dX7_law_31 : decode cX7_law 31 = .ok (.iadd, 1) := by decide +kernel
theorem dX7_law_32 : decode cX7_law 32 = .ok (.goto 4, 3) := by decide +kernel
theorem dX7_law_35 : decode cX7_law 35 = .ok (.iconst (-1), 1) := by decide +kernel
theorem dX7_law_36 : decode cX7_law 36 = .ok (.ireturn, 1) := by decide +kernel
theorem dX7_write_0 : decode cX7_write 0 = .ok (.iload_n 1, 1) := by decide +kernel
theorem dX7_write_1 : decode cX7_write 1 = .ok (.i2l, 1) := by decide +kernel
theorem dX7_write_2 : decode cX7_write 2 = .ok (.ldc2_w 61, 3) := by decide +kernel
theorem dX7_write_5 : decode cX7_write 5 = .ok (.ldc2_w 63, 3) := by decide +kernel
theorem dX7_write_8 : decode cX7_write 8 = .ok (.invokestatic 43, 3) := by decide +kernel
theorem dX7_write_11 : decode cX7_write 11 = .ok (.ifCond .ne 5, 3) := by decide +kernel
theorem dX7_write_14 : decode cX7_write 14 = .ok (.iconst (-1), 1) := by decide +kernel
theorem dX7_write_15 : decode cX7_write 15 = .ok (.ireturn, 1) := by decide +kernel
theorem dX7_write_16 : decode cX7_write 16 = .ok (.aload_n 0, 1) := by decide +kernel
theorem dX7_write_17 : decode cX7_write 17 = .ok (.getfield 65, 3) := by decide +kernel
theorem dX7_write_20 : decode cX7_write 20 = .ok (.sipush 200, 3) := by decide +kernel
theorem dX7_write_23 : decode cX7_write 23 = .ok (.if_icmp .ne 6, 3) := by decide +kernel
theorem dX7_write_26 : decode cX7_write 26 = .ok (.bipush (-3), 2) := by decide +kernel
theorem dX7_write_28 : decode cX7_write 28 = .ok (.ireturn, 1) := by decide +kernel
theorem dX7_write_29 : decode cX7_write 29 = .ok (.aload_n 0, 1) := by decide +kernel
theorem dX7_write_30 : decode cX7_write 30 = .ok (.getfield 7, 3) := by decide +kernel
theorem dX7_write_33 : decode cX7_write 33 = .ok (.aload_n 0, 1) := by decide +kernel
theorem dX7_write_34 : decode cX7_write 34 = .ok (.getfield 65, 3) := by decide +kernel
theorem dX7_write_37 : decode cX7_write 37 = .ok (.iload_n 1, 1) := by decide +kernel
theorem dX7_write_38 : decode cX7_write 38 = .ok (.iastore, 1) := by decide +kernel
theorem dX7_write_39 : decode cX7_write 39 = .ok (.aload_n 0, 1) := by decide +kernel
theorem dX7_write_40 : decode cX7_write 40 = .ok (.dup, 1) := by decide +kernel
theorem dX7_write_41 : decode cX7_write 41 = .ok (.getfield 65, 3) := by decide +kernel
theorem dX7_write_44 : decode cX7_write 44 = .ok (.iconst 1, 1) := by decide +kernel
theorem dX7_write_45 : decode cX7_write 45 = .ok (.iadd, 1) := by decide +kernel
theorem dX7_write_46 : decode cX7_write 46 = .ok (.putfield 65, 3) := by decide +kernel
theorem dX7_write_49 : decode cX7_write 49 = .ok (.aload_n 0, 1) := by decide +kernel
theorem dX7_write_50 : decode cX7_write 50 = .ok (.getfield 65, 3) := by decide +kernel
theorem dX7_write_53 : decode cX7_write 53 = .ok (.ireturn, 1) := by decide +kernel
theorem dX7_wipe_0 : decode cX7_wipe 0 = .ok (.aload_n 0, 1) := by decide +kernel
theorem dX7_wipe_1 : decode cX7_wipe 1 = .ok (.getfield 65, 3) := by decide +kernel
theorem dX7_wipe_4 : decode cX7_wipe 4 = .ok (.istore_n 1, 1) := by decide +kernel
theorem dX7_wipe_5 : decode cX7_wipe 5 = .ok (.aload_n 0, 1) := by decide +kernel
theorem dX7_wipe_6 : decode cX7_wipe 6 = .ok (.iconst 0, 1) := by decide +kernel
theorem dX7_wipe_7 : decode cX7_wipe 7 = .ok (.putfield 65, 3) := by decide +kernel
theorem dX7_wipe_10 : decode cX7_wipe 10 = .ok (.iload_n 1, 1) := by decide +kernel
theorem dX7_wipe_11 : decode cX7_wipe 11 = .ok (.ireturn, 1) := by decide +kernel
theorem dX7_byteAt_0 : decode cX7_byteAt 0 = .ok (.iload_n 1, 1) := by decide +kernel
theorem dX7_byteAt_1 : decode cX7_byteAt 1 = .ok (.aload_n 0, 1) := by decide +kernel
theorem dX7_byteAt_2 : decode cX7_byteAt 2 = .ok (.getfield 65, 3) := by decide +kernel
theorem dX7_byteAt_5 : decode cX7_byteAt 5 = .ok (.if_icmp .ge 12, 3) := by decide +kernel
theorem dX7_byteAt_8 : decode cX7_byteAt 8 = .ok (.aload_n 0, 1) := by decide +kernel
theorem dX7_byteAt_9 : decode cX7_byteAt 9 = .ok (.getfield 7, 3) := by decide +kernel
theorem dX7_byteAt_12 : decode cX7_byteAt 12 = .ok (.iload_n 1, 1) := by decide +kernel
theorem dX7_byteAt_13 : decode cX7_byteAt 13 = .ok (.iaload, 1) := by decide +kernel
theorem dX7_byteAt_14 : decode cX7_byteAt 14 = .ok (.goto 4, 3) := by decide +kernel
theorem dX7_byteAt_17 : decode cX7_byteAt 17 = .ok (.iconst 0, 1) := by decide +kernel
theorem dX7_byteAt_18 : decode cX7_byteAt 18 = .ok (.ireturn, 1) := by decide +kernel
theorem dX7_number_0 : decode cX7_number 0 = .ok (.iconst 0, 1) := by decide +kernel
theorem dX7_number_1 : decode cX7_number 1 = .ok (.istore 5, 2) := by decide +kernel
theorem dX7_number_3 : decode cX7_number 3 = .ok (.iconst 0, 1) := by decide +kernel
theorem dX7_number_4 : decode cX7_number 4 = .ok (.istore 6, 2) := by decide +kernel
theorem dX7_number_6 : decode cX7_number 6 = .ok (.iload 6, 2) := by decide +kernel
theorem dX7_number_8 : decode cX7_number 8 = .ok (.iconst 3, 1) := by decide +kernel
theorem dX7_number_9 : decode cX7_number 9 = .ok (.if_icmp .ge 59, 3) := by decide +kernel
theorem dX7_number_12 : decode cX7_number 12 = .ok (.aload_n 0, 1) := by decide +kernel
theorem dX7_number_13 : decode cX7_number 13 = .ok (.aload_n 0, 1) := by decide +kernel
theorem dX7_number_14 : decode cX7_number 14 = .ok (.getfield 69, 3) := by decide +kernel
theorem dX7_number_17 : decode cX7_number 17 = .ok (.invokevirtual 72, 3) := by decide +kernel
theorem dX7_number_20 : decode cX7_number 20 = .ok (.i2l, 1) := by decide +kernel
theorem dX7_number_21 : decode cX7_number 21 = .ok (.ldc2_w 76, 3) := by decide +kernel
theorem dX7_number_24 : decode cX7_number 24 = .ok (.ldc2_w 78, 3) := by decide +kernel
theorem dX7_number_27 : decode cX7_number 27 = .ok (.invokestatic 43, 3) := by decide +kernel
theorem dX7_number_30 : decode cX7_number 30 = .ok (.ifCond .eq 38, 3) := by decide +kernel
theorem dX7_number_33 : decode cX7_number 33 = .ok (.bipush 10, 2) := by decide +kernel
theorem dX7_number_35 : decode cX7_number 35 = .ok (.iload 5, 2) := by decide +kernel
theorem dX7_number_37 : decode cX7_number 37 = .ok (.imul, 1) := by decide +kernel
theorem dX7_number_38 : decode cX7_number 38 = .ok (.aload_n 0, 1) := by decide +kernel
theorem dX7_number_39 : decode cX7_number 39 = .ok (.aload_n 0, 1) := by decide +kernel
theorem dX7_number_40 : decode cX7_number 40 = .ok (.getfield 69, 3) := by decide +kernel
theorem dX7_number_43 : decode cX7_number 43 = .ok (.invokevirtual 72, 3) := by decide +kernel
theorem dX7_number_46 : decode cX7_number 46 = .ok (.iadd, 1) := by decide +kernel
theorem dX7_number_47 : decode cX7_number 47 = .ok (.bipush 48, 2) := by decide +kernel
theorem dX7_number_49 : decode cX7_number 49 = .ok (.isub, 1) := by decide +kernel
theorem dX7_number_50 : decode cX7_number 50 = .ok (.istore 5, 2) := by decide +kernel
theorem dX7_number_52 : decode cX7_number 52 = .ok (.aload_n 0, 1) := by decide +kernel
theorem dX7_number_53 : decode cX7_number 53 = .ok (.dup, 1) := by decide +kernel
theorem dX7_number_54 : decode cX7_number 54 = .ok (.getfield 69, 3) := by decide +kernel
theorem dX7_number_57 : decode cX7_number 57 = .ok (.iconst 1, 1) := by decide +kernel
theorem dX7_number_58 : decode cX7_number 58 = .ok (.iadd, 1) := by decide +kernel
theorem dX7_number_59 : decode cX7_number 59 = .ok (.putfield 69, 3) := by decide +kernel
theorem dX7_number_62 : decode cX7_number 62 = .ok (.iinc 6 1, 3) := by decide +kernel
theorem dX7_number_65 : decode cX7_number 65 = .ok (.goto (-59), 3) := by decide +kernel
theorem dX7_number_68 : decode cX7_number 68 = .ok (.aload_n 0, 1) := by decide +kernel
theorem dX7_number_69 : decode cX7_number 69 = .ok (.getfield 16, 3) := by decide +kernel
theorem dX7_number_72 : decode cX7_number 72 = .ok (.iload_n 1, 1) := by decide +kernel
theorem dX7_number_73 : decode cX7_number 73 = .ok (.iload 5, 2) := by decide +kernel
theorem dX7_number_75 : decode cX7_number 75 = .ok (.iastore, 1) := by decide +kernel
theorem dX7_number_76 : decode cX7_number 76 = .ok (.iload 6, 2) := by decide +kernel
theorem dX7_number_78 : decode cX7_number 78 = .ok (.ifCond .le 33, 3) := by decide +kernel
theorem dX7_number_81 : decode cX7_number 81 = .ok (.iload 5, 2) := by decide +kernel
theorem dX7_number_83 : decode cX7_number 83 = .ok (.i2l, 1) := by decide +kernel
theorem dX7_number_84 : decode cX7_number 84 = .ok (.iload_n 2, 1) := by decide +kernel
theorem dX7_number_85 : decode cX7_number 85 = .ok (.i2l, 1) := by decide +kernel
theorem dX7_number_86 : decode cX7_number 86 = .ok (.iload_n 3, 1) := by decide +kernel
theorem dX7_number_87 : decode cX7_number 87 = .ok (.i2l, 1) := by decide +kernel
theorem dX7_number_88 : decode cX7_number 88 = .ok (.invokestatic 43, 3) := by decide +kernel
theorem dX7_number_91 : decode cX7_number 91 = .ok (.ifCond .eq 20, 3) := by decide +kernel
theorem dX7_number_94 : decode cX7_number 94 = .ok (.aload_n 0, 1) := by decide +kernel
theorem dX7_number_95 : decode cX7_number 95 = .ok (.aload_n 0, 1) := by decide +kernel
theorem dX7_number_96 : decode cX7_number 96 = .ok (.getfield 69, 3) := by decide +kernel
theorem dX7_number_99 : decode cX7_number 99 = .ok (.invokevirtual 72, 3) := by decide +kernel
theorem dX7_number_102 : decode cX7_number 102 = .ok (.iload 4, 2) := by decide +kernel
theorem dX7_number_104 : decode cX7_number 104 = .ok (.if_icmp .ne 7, 3) := by decide +kernel
theorem dX7_number_107 : decode cX7_number 107 = .ok (.iconst 1, 1) := by decide +kernel
theorem dX7_number_108 : decode cX7_number 108 = .ok (.goto 4, 3) := by decide +kernel
theorem dX7_number_111 : decode cX7_number 111 = .ok (.iconst 0, 1) := by decide +kernel
theorem dX7_number_112 : decode cX7_number 112 = .ok (.istore 7, 2) := by decide +kernel
theorem dX7_number_114 : decode cX7_number 114 = .ok (.aload_n 0, 1) := by decide +kernel
theorem dX7_number_115 : decode cX7_number 115 = .ok (.dup, 1) := by decide +kernel
theorem dX7_number_116 : decode cX7_number 116 = .ok (.getfield 69, 3) := by decide +kernel
theorem dX7_number_119 : decode cX7_number 119 = .ok (.iconst 1, 1) := by decide +kernel
theorem dX7_number_120 : decode cX7_number 120 = .ok (.iadd, 1) := by decide +kernel
theorem dX7_number_121 : decode cX7_number 121 = .ok (.putfield 69, 3) := by decide +kernel
theorem dX7_number_124 : decode cX7_number 124 = .ok (.iload 7, 2) := by decide +kernel
theorem dX7_number_126 : decode cX7_number 126 = .ok (.ireturn, 1) := by decide +kernel
theorem dX7_mayBe_0 : decode cX7_mayBe 0 = .ok (.iload_n 0, 1) := by decide +kernel
theorem dX7_mayBe_1 : decode cX7_mayBe 1 = .ok (.ifCond .ne 16, 3) := by decide +kernel
theorem dX7_mayBe_4 : decode cX7_mayBe 4 = .ok (.iload_n 2, 1) := by decide +kernel
theorem dX7_mayBe_5 : decode cX7_mayBe 5 = .ok (.i2l, 1) := by decide +kernel
theorem dX7_mayBe_6 : decode cX7_mayBe 6 = .ok (.lconst 1, 1) := by decide +kernel
theorem dX7_mayBe_7 : decode cX7_mayBe 7 = .ok (.iload_n 1, 1) := by decide +kernel
theorem dX7_mayBe_8 : decode cX7_mayBe 8 = .ok (.iconst 1, 1) := by decide +kernel
theorem dX7_mayBe_9 : decode cX7_mayBe 9 = .ok (.isub, 1) := by decide +kernel
theorem dX7_mayBe_10 : decode cX7_mayBe 10 = .ok (.i2l, 1) := by decide +kernel
theorem dX7_mayBe_11 : decode cX7_mayBe 11 = .ok (.invokestatic 43, 3) := by decide +kernel
theorem dX7_mayBe_14 : decode cX7_mayBe 14 = .ok (.goto 25, 3) := by decide +kernel
theorem dX7_mayBe_17 : decode cX7_mayBe 17 = .ok (.iload_n 0, 1) := by decide +kernel
theorem dX7_mayBe_18 : decode cX7_mayBe 18 = .ok (.iconst 1, 1) := by decide +kernel
theorem dX7_mayBe_19 : decode cX7_mayBe 19 = .ok (.if_icmp .ne 11, 3) := by decide +kernel
theorem dX7_mayBe_22 : decode cX7_mayBe 22 = .ok (.iload_n 2, 1) := by decide +kernel
theorem dX7_mayBe_23 : decode cX7_mayBe 23 = .ok (.iload_n 1, 1) := by decide +kernel
theorem dX7_mayBe_24 : decode cX7_mayBe 24 = .ok (.invokestatic 57, 3) := by decide +kernel
theorem dX7_mayBe_27 : decode cX7_mayBe 27 = .ok (.goto 12, 3) := by decide +kernel
theorem dX7_mayBe_30 : decode cX7_mayBe 30 = .ok (.iload_n 2, 1) := by decide +kernel
theorem dX7_mayBe_31 : decode cX7_mayBe 31 = .ok (.i2l, 1) := by decide +kernel
theorem dX7_mayBe_32 : decode cX7_mayBe 32 = .ok (.lconst 1, 1) := by decide +kernel
theorem dX7_mayBe_33 : decode cX7_mayBe 33 = .ok (.ldc2_w 80, 3) := by decide +kernel
theorem dX7_mayBe_36 : decode cX7_mayBe 36 = .ok (.invokestatic 43, 3) := by decide +kernel
theorem dX7_mayBe_39 : decode cX7_mayBe 39 = .ok (.ireturn, 1) := by decide +kernel
theorem dX7_panelItem_0 : decode cX7_panelItem 0 = .ok (.aload_n 0, 1) := by decide +kernel
theorem dX7_panelItem_1 : decode cX7_panelItem 1 = .ok (.getfield 16, 3) := by decide +kernel
theorem dX7_panelItem_4 : decode cX7_panelItem 4 = .ok (.bipush 20, 2) := by decide +kernel
theorem dX7_panelItem_6 : decode cX7_panelItem 6 = .ok (.iaload, 1) := by decide +kernel
theorem dX7_panelItem_7 : decode cX7_panelItem 7 = .ok (.istore_n 2, 1) := by decide +kernel
theorem dX7_panelItem_8 : decode cX7_panelItem 8 = .ok (.iload_n 2, 1) := by decide +kernel
theorem dX7_panelItem_9 : decode cX7_panelItem 9 = .ok (.iconst 4, 1) := by decide +kernel
theorem dX7_panelItem_10 : decode cX7_panelItem 10 = .ok (.if_icmp .ne 5, 3) := by decide +kernel
theorem dX7_panelItem_13 : decode cX7_panelItem 13 = .ok (.iconst 0, 1) := by decide +kernel
theorem dX7_panelItem_14 : decode cX7_panelItem 14 = .ok (.ireturn, 1) := by decide +kernel
theorem dX7_panelItem_15 : decode cX7_panelItem 15 = .ok (.aload_n 0, 1) := by decide +kernel
theorem dX7_panelItem_16 : decode cX7_panelItem 16 = .ok (.getfield 16, 3) := by decide +kernel
theorem dX7_panelItem_19 : decode cX7_panelItem 19 = .ok (.bipush 20, 2) := by decide +kernel
theorem dX7_panelItem_21 : decode cX7_panelItem 21 = .ok (.dup2, 1) := by decide +kernel
theorem dX7_panelItem_22 : decode cX7_panelItem 22 = .ok (.iaload, 1) := by decide +kernel
theorem dX7_panelItem_23 : decode cX7_panelItem 23 = .ok (.iconst 1, 1) := by decide +kernel
theorem dX7_panelItem_24 : decode cX7_panelItem 24 = .ok (.iadd, 1) := by decide +kernel
theorem dX7_panelItem_25 : decode cX7_panelItem 25 = .ok (.iastore, 1) := by decide +kernel
theorem dX7_panelItem_26 : decode cX7_panelItem 26 = .ok (.aload_n 0, 1) := by decide +kernel
theorem dX7_panelItem_27 : decode cX7_panelItem 27 = .ok (.getfield 16, 3) := by decide +kernel
theorem dX7_panelItem_30 : decode cX7_panelItem 30 = .ok (.iconst 5, 1) := by decide +kernel
theorem dX7_panelItem_31 : decode cX7_panelItem 31 = .ok (.iload_n 2, 1) := by decide +kernel
theorem dX7_panelItem_32 : decode cX7_panelItem 32 = .ok (.imul, 1) := by decide +kernel
theorem dX7_panelItem_33 : decode cX7_panelItem 33 = .ok (.iload_n 1, 1) := by decide +kernel
theorem dX7_panelItem_34 : decode cX7_panelItem 34 = .ok (.iastore, 1) := by decide +kernel
theorem dX7_panelItem_35 : decode cX7_panelItem 35 = .ok (.aload_n 0, 1) := by decide +kernel
theorem dX7_panelItem_36 : decode cX7_panelItem 36 = .ok (.iconst 5, 1) := by decide +kernel
theorem dX7_panelItem_37 : decode cX7_panelItem 37 = .ok (.iload_n 2, 1) := by decide +kernel
theorem dX7_panelItem_38 : decode cX7_panelItem 38 = .ok (.imul, 1) := by decide +kernel
theorem dX7_panelItem_39 : decode cX7_panelItem 39 = .ok (.iconst 1, 1) := by decide +kernel
theorem dX7_panelItem_40 : decode cX7_panelItem 40 = .ok (.iadd, 1) := by decide +kernel
theorem dX7_panelItem_41 : decode cX7_panelItem 41 = .ok (.iconst 3, 1) := by decide +kernel
theorem dX7_panelItem_42 : decode cX7_panelItem 42 = .ok (.bipush 31, 2) := by decide +kernel
theorem dX7_panelItem_44 : decode cX7_panelItem 44 = .ok (.bipush 44, 2) := by decide +kernel
theorem dX7_panelItem_46 : decode cX7_panelItem 46 = .ok (.invokevirtual 82, 3) := by decide +kernel
theorem dX7_panelItem_49 : decode cX7_panelItem 49 = .ok (.ifCond .eq 19, 3) := by decide +kernel
theorem dX7_panelItem_52 : decode cX7_panelItem 52 = .ok (.aload_n 0, 1) := by decide +kernel
theorem dX7_panelItem_53 : decode cX7_panelItem 53 = .ok (.getfield 16, 3) := by decide +kernel
theorem dX7_panelItem_56 : decode cX7_panelItem 56 = .ok (.iconst 5, 1) := by decide +kernel
theorem dX7_panelItem_57 : decode cX7_panelItem 57 = .ok (.iload_n 2, 1) := by decide +kernel
theorem dX7_panelItem_58 : decode cX7_panelItem 58 = .ok (.imul, 1) := by decide +kernel
theorem dX7_panelItem_59 : decode cX7_panelItem 59 = .ok (.iconst 1, 1) := by decide +kernel
theorem dX7_panelItem_60 : decode cX7_panelItem 60 = .ok (.iadd, 1) := by decide +kernel
theorem dX7_panelItem_61 : decode cX7_panelItem 61 = .ok (.iaload, 1) := by decide +kernel
theorem dX7_panelItem_62 : decode cX7_panelItem 62 = .ok (.invokestatic 47, 3) := by decide +kernel
theorem dX7_panelItem_65 : decode cX7_panelItem 65 = .ok (.ifCond .ne 5, 3) := by decide +kernel
theorem dX7_panelItem_68 : decode cX7_panelItem 68 = .ok (.iconst 0, 1) := by decide +kernel
theorem dX7_panelItem_69 : decode cX7_panelItem 69 = .ok (.ireturn, 1) := by decide +kernel
theorem dX7_panelItem_70 : decode cX7_panelItem 70 = .ok (.aload_n 0, 1) := by decide +kernel
theorem dX7_panelItem_71 : decode cX7_panelItem 71 = .ok (.getfield 16, 3) := by decide +kernel
theorem dX7_panelItem_74 : decode cX7_panelItem 74 = .ok (.iconst 5, 1) := by decide +kernel
theorem dX7_panelItem_75 : decode cX7_panelItem 75 = .ok (.iload_n 2, 1) := by decide +kernel
theorem dX7_panelItem_76 : decode cX7_panelItem 76 = .ok (.imul, 1) := by decide +kernel
theorem dX7_panelItem_77 : decode cX7_panelItem 77 = .ok (.iconst 1, 1) := by decide +kernel
theorem dX7_panelItem_78 : decode cX7_panelItem 78 = .ok (.iadd, 1) := by decide +kernel
theorem dX7_panelItem_79 : decode cX7_panelItem 79 = .ok (.iaload, 1) := by decide +kernel
theorem dX7_panelItem_80 : decode cX7_panelItem 80 = .ok (.istore_n 3, 1) := by decide +kernel
theorem dX7_panelItem_81 : decode cX7_panelItem 81 = .ok (.aload_n 0, 1) := by decide +kernel
theorem dX7_panelItem_82 : decode cX7_panelItem 82 = .ok (.iconst 5, 1) := by decide +kernel
theorem dX7_panelItem_83 : decode cX7_panelItem 83 = .ok (.iload_n 2, 1) := by decide +kernel
theorem dX7_panelItem_84 : decode cX7_panelItem 84 = .ok (.imul, 1) := by decide +kernel
theorem dX7_panelItem_85 : decode cX7_panelItem 85 = .ok (.iconst 2, 1) := by decide +kernel
theorem dX7_panelItem_86 : decode cX7_panelItem 86 = .ok (.iadd, 1) := by decide +kernel
theorem dX7_panelItem_87 : decode cX7_panelItem 87 = .ok (.iconst 1, 1) := by decide +kernel
theorem dX7_panelItem_88 : decode cX7_panelItem 88 = .ok (.sipush 999, 3) := by decide +kernel
theorem dX7_panelItem_91 : decode cX7_panelItem 91 = .ok (.bipush 44, 2) := by decide +kernel
theorem dX7_panelItem_93 : decode cX7_panelItem 93 = .ok (.invokevirtual 82, 3) := by decide +kernel
theorem dX7_panelItem_96 : decode cX7_panelItem 96 = .ok (.ifCond .eq 60, 3) := by decide +kernel
theorem dX7_panelItem_99 : decode cX7_panelItem 99 = .ok (.iload_n 1, 1) := by decide +kernel
theorem dX7_panelItem_100 : decode cX7_panelItem 100 = .ok (.iload_n 3, 1) := by decide +kernel
theorem dX7_panelItem_101 : decode cX7_panelItem 101 = .ok (.aload_n 0, 1) := by decide +kernel
theorem dX7_panelItem_102 : decode cX7_panelItem 102 = .ok (.getfield 16, 3) := by decide +kernel
theorem dX7_panelItem_105 : decode cX7_panelItem 105 = .ok (.iconst 5, 1) := by decide +kernel
theorem dX7_panelItem_106 : decode cX7_panelItem 106 = .ok (.iload_n 2, 1) := by decide +kernel
theorem dX7_panelItem_107 : decode cX7_panelItem 107 = .ok (.imul, 1) := by decide +kernel
theorem dX7_panelItem_108 : decode cX7_panelItem 108 = .ok (.iconst 2, 1) := by decide +kernel
theorem dX7_panelItem_109 : decode cX7_panelItem 109 = .ok (.iadd, 1) := by decide +kernel
theorem dX7_panelItem_110 : decode cX7_panelItem 110 = .ok (.iaload, 1) := by decide +kernel
theorem dX7_panelItem_111 : decode cX7_panelItem 111 = .ok (.invokestatic 86, 3) := by decide +kernel
theorem dX7_panelItem_114 : decode cX7_panelItem 114 = .ok (.ifCond .eq 42, 3) := by decide +kernel
theorem dX7_panelItem_117 : decode cX7_panelItem 117 = .ok (.aload_n 0, 1) := by decide +kernel
theorem dX7_panelItem_118 : decode cX7_panelItem 118 = .ok (.iconst 5, 1) := by decide +kernel
theorem dX7_panelItem_119 : decode cX7_panelItem 119 = .ok (.iload_n 2, 1) := by decide +kernel
theorem dX7_panelItem_120 : decode cX7_panelItem 120 = .ok (.imul, 1) := by decide +kernel
theorem dX7_panelItem_121 : decode cX7_panelItem 121 = .ok (.iconst 3, 1) := by decide +kernel
theorem dX7_panelItem_122 : decode cX7_panelItem 122 = .ok (.iadd, 1) := by decide +kernel
theorem dX7_panelItem_123 : decode cX7_panelItem 123 = .ok (.iconst 0, 1) := by decide +kernel
theorem dX7_panelItem_124 : decode cX7_panelItem 124 = .ok (.iload_n 3, 1) := by decide +kernel
theorem dX7_panelItem_125 : decode cX7_panelItem 125 = .ok (.iconst 1, 1) := by decide +kernel
theorem dX7_panelItem_126 : decode cX7_panelItem 126 = .ok (.isub, 1) := by decide +kernel
theorem dX7_panelItem_127 : decode cX7_panelItem 127 = .ok (.bipush 44, 2) := by decide +kernel
theorem dX7_panelItem_129 : decode cX7_panelItem 129 = .ok (.invokevirtual 82, 3) := by decide +kernel
theorem dX7_panelItem_132 : decode cX7_panelItem 132 = .ok (.ifCond .eq 24, 3) := by decide +kernel
theorem dX7_panelItem_135 : decode cX7_panelItem 135 = .ok (.aload_n 0, 1) := by decide +kernel
theorem dX7_panelItem_136 : decode cX7_panelItem 136 = .ok (.iconst 5, 1) := by decide +kernel
theorem dX7_panelItem_137 : decode cX7_panelItem 137 = .ok (.iload_n 2, 1) := by decide +kernel
theorem dX7_panelItem_138 : decode cX7_panelItem 138 = .ok (.imul, 1) := by decide +kernel
theorem dX7_panelItem_139 : decode cX7_panelItem 139 = .ok (.iconst 4, 1) := by decide +kernel
theorem dX7_panelItem_140 : decode cX7_panelItem 140 = .ok (.iadd, 1) := by decide +kernel
theorem dX7_panelItem_141 : decode cX7_panelItem 141 = .ok (.iconst 1, 1) := by decide +kernel
theorem dX7_panelItem_142 : decode cX7_panelItem 142 = .ok (.bipush 40, 2) := by decide +kernel
theorem dX7_panelItem_144 : decode cX7_panelItem 144 = .ok (.bipush 59, 2) := by decide +kernel
theorem dX7_panelItem_146 : decode cX7_panelItem 146 = .ok (.invokevirtual 82, 3) := by decide +kernel
theorem dX7_panelItem_149 : decode cX7_panelItem 149 = .ok (.ifCond .eq 7, 3) := by decide +kernel
theorem dX7_panelItem_152 : decode cX7_panelItem 152 = .ok (.iconst 1, 1) := by decide +kernel
theorem dX7_panelItem_153 : decode cX7_panelItem 153 = .ok (.goto 4, 3) := by decide +kernel
theorem dX7_panelItem_156 : decode cX7_panelItem 156 = .ok (.iconst 0, 1) := by decide +kernel
theorem dX7_panelItem_157 : decode cX7_panelItem 157 = .ok (.ireturn, 1) := by decide +kernel
theorem dX7_item_0 : decode cX7_item 0 = .ok (.iload_n 1, 1) := by decide +kernel
theorem dX7_item_1 : decode cX7_item 1 = .ok (.lookupswitch 116 #[(98, 81), (108, 63), (113, 51), (114, 57), (117, 69)], 51) := by decide +kernel
theorem dX7_item_52 : decode cX7_item 52 = .ok (.aload_n 0, 1) := by decide +kernel
theorem dX7_item_53 : decode cX7_item 53 = .ok (.iconst 0, 1) := by decide +kernel
theorem dX7_item_54 : decode cX7_item 54 = .ok (.invokevirtual 90, 3) := by decide +kernel
theorem dX7_item_57 : decode cX7_item 57 = .ok (.ireturn, 1) := by decide +kernel
theorem dX7_item_58 : decode cX7_item 58 = .ok (.aload_n 0, 1) := by decide +kernel
theorem dX7_item_59 : decode cX7_item 59 = .ok (.iconst 1, 1) := by decide +kernel
theorem dX7_item_60 : decode cX7_item 60 = .ok (.invokevirtual 90, 3) := by decide +kernel
theorem dX7_item_63 : decode cX7_item 63 = .ok (.ireturn, 1) := by decide +kernel
theorem dX7_item_64 : decode cX7_item 64 = .ok (.aload_n 0, 1) := by decide +kernel
theorem dX7_item_65 : decode cX7_item 65 = .ok (.iconst 2, 1) := by decide +kernel
theorem dX7_item_66 : decode cX7_item 66 = .ok (.invokevirtual 90, 3) := by decide +kernel
theorem dX7_item_69 : decode cX7_item 69 = .ok (.ireturn, 1) := by decide +kernel
theorem dX7_item_70 : decode cX7_item 70 = .ok (.aload_n 0, 1) := by decide +kernel
theorem dX7_item_71 : decode cX7_item 71 = .ok (.bipush 21, 2) := by decide +kernel
theorem dX7_item_73 : decode cX7_item 73 = .ok (.iconst 1, 1) := by decide +kernel
theorem dX7_item_74 : decode cX7_item 74 = .ok (.bipush 20, 2) := by decide +kernel
theorem dX7_item_76 : decode cX7_item 76 = .ok (.bipush 59, 2) := by decide +kernel
theorem dX7_item_78 : decode cX7_item 78 = .ok (.invokevirtual 82, 3) := by decide +kernel
theorem dX7_item_81 : decode cX7_item 81 = .ok (.ireturn, 1) := by decide +kernel
theorem dX7_item_82 : decode cX7_item 82 = .ok (.aload_n 0, 1) := by decide +kernel
theorem dX7_item_83 : decode cX7_item 83 = .ok (.bipush 22, 2) := by decide +kernel
theorem dX7_item_85 : decode cX7_item 85 = .ok (.bipush 20, 2) := by decide +kernel
theorem dX7_item_87 : decode cX7_item 87 = .ok (.sipush 400, 3) := by decide +kernel
theorem dX7_item_90 : decode cX7_item 90 = .ok (.bipush 44, 2) := by decide +kernel
theorem dX7_item_92 : decode cX7_item 92 = .ok (.invokevirtual 82, 3) := by decide +kernel
theorem dX7_item_95 : decode cX7_item 95 = .ok (.ifCond .eq 20, 3) := by decide +kernel
theorem dX7_item_98 : decode cX7_item 98 = .ok (.aload_n 0, 1) := by decide +kernel
theorem dX7_item_99 : decode cX7_item 99 = .ok (.bipush 23, 2) := by decide +kernel
theorem dX7_item_101 : decode cX7_item 101 = .ok (.iconst 0, 1) := by decide +kernel
theorem dX7_item_102 : decode cX7_item 102 = .ok (.iconst 5, 1) := by decide +kernel
theorem dX7_item_103 : decode cX7_item 103 = .ok (.bipush 59, 2) := by decide +kernel
theorem dX7_item_105 : decode cX7_item 105 = .ok (.invokevirtual 82, 3) := by decide +kernel
theorem dX7_item_108 : decode cX7_item 108 = .ok (.ifCond .eq 7, 3) := by decide +kernel
theorem dX7_item_111 : decode cX7_item 111 = .ok (.iconst 1, 1) := by decide +kernel
theorem dX7_item_112 : decode cX7_item 112 = .ok (.goto 4, 3) := by decide +kernel
theorem dX7_item_115 : decode cX7_item 115 = .ok (.iconst 0, 1) := by decide +kernel
theorem dX7_item_116 : decode cX7_item 116 = .ok (.ireturn, 1) := by decide +kernel
theorem dX7_item_117 : decode cX7_item 117 = .ok (.iconst 0, 1) := by decide +kernel
theorem dX7_item_118 : decode cX7_item 118 = .ok (.ireturn, 1) := by decide +kernel
theorem dX7_fault_0 : decode cX7_fault 0 = .ok (.iconst 0, 1) := by decide +kernel
theorem dX7_fault_1 : decode cX7_fault 1 = .ok (.istore_n 1, 1) := by decide +kernel
theorem dX7_fault_2 : decode cX7_fault 2 = .ok (.iload_n 1, 1) := by decide +kernel
theorem dX7_fault_3 : decode cX7_fault 3 = .ok (.bipush 24, 2) := by decide +kernel
theorem dX7_fault_5 : decode cX7_fault 5 = .ok (.if_icmp .ge 16, 3) := by decide +kernel
theorem dX7_fault_8 : decode cX7_fault 8 = .ok (.aload_n 0, 1) := by decide +kernel
theorem dX7_fault_9 : decode cX7_fault 9 = .ok (.getfield 16, 3) := by decide +kernel
theorem dX7_fault_12 : decode cX7_fault 12 = .ok (.iload_n 1, 1) := by decide +kernel
theorem dX7_fault_13 : decode cX7_fault 13 = .ok (.iconst 0, 1) := by decide +kernel
theorem dX7_fault_14 : decode cX7_fault 14 = .ok (.iastore, 1) := by decide +kernel
theorem dX7_fault_15 : decode cX7_fault 15 = .ok (.iinc 1 1, 3) := by decide +kernel
theorem dX7_fault_18 : decode cX7_fault 18 = .ok (.goto (-16), 3) := by decide +kernel
theorem dX7_fault_21 : decode cX7_fault 21 = .ok (.aload_n 0, 1) := by decide +kernel
theorem dX7_fault_22 : decode cX7_fault 22 = .ok (.getfield 16, 3) := by decide +kernel
theorem dX7_fault_25 : decode cX7_fault 25 = .ok (.bipush 21, 2) := by decide +kernel
theorem dX7_fault_27 : decode cX7_fault 27 = .ok (.iconst 3, 1) := by decide +kernel
theorem dX7_fault_28 : decode cX7_fault 28 = .ok (.iastore, 1) := by decide +kernel
theorem dX7_fault_29 : decode cX7_fault 29 = .ok (.aload_n 0, 1) := by decide +kernel
theorem dX7_fault_30 : decode cX7_fault 30 = .ok (.getfield 16, 3) := by decide +kernel
theorem dX7_fault_33 : decode cX7_fault 33 = .ok (.bipush 22, 2) := by decide +kernel
theorem dX7_fault_35 : decode cX7_fault 35 = .ok (.bipush 100, 2) := by decide +kernel
theorem dX7_fault_37 : decode cX7_fault 37 = .ok (.iastore, 1) := by decide +kernel
theorem dX7_fault_38 : decode cX7_fault 38 = .ok (.aload_n 0, 1) := by decide +kernel
theorem dX7_fault_39 : decode cX7_fault 39 = .ok (.getfield 16, 3) := by decide +kernel
theorem dX7_fault_42 : decode cX7_fault 42 = .ok (.bipush 23, 2) := by decide +kernel
theorem dX7_fault_44 : decode cX7_fault 44 = .ok (.iconst 1, 1) := by decide +kernel
theorem dX7_fault_45 : decode cX7_fault 45 = .ok (.iastore, 1) := by decide +kernel
theorem dX7_fault_46 : decode cX7_fault 46 = .ok (.aload_n 0, 1) := by decide +kernel
theorem dX7_fault_47 : decode cX7_fault 47 = .ok (.iconst 0, 1) := by decide +kernel
theorem dX7_fault_48 : decode cX7_fault 48 = .ok (.putfield 69, 3) := by decide +kernel
theorem dX7_fault_51 : decode cX7_fault 51 = .ok (.aload_n 0, 1) := by decide +kernel
theorem dX7_fault_52 : decode cX7_fault 52 = .ok (.getfield 69, 3) := by decide +kernel
theorem dX7_fault_55 : decode cX7_fault 55 = .ok (.aload_n 0, 1) := by decide +kernel
theorem dX7_fault_56 : decode cX7_fault 56 = .ok (.getfield 65, 3) := by decide +kernel
theorem dX7_fault_59 : decode cX7_fault 59 = .ok (.if_icmp .ge 36, 3) := by decide +kernel
theorem dX7_fault_62 : decode cX7_fault 62 = .ok (.aload_n 0, 1) := by decide +kernel
theorem dX7_fault_63 : decode cX7_fault 63 = .ok (.getfield 69, 3) := by decide +kernel
theorem dX7_fault_66 : decode cX7_fault 66 = .ok (.istore_n 1, 1) := by decide +kernel
theorem dX7_fault_67 : decode cX7_fault 67 = .ok (.aload_n 0, 1) := by decide +kernel
theorem dX7_fault_68 : decode cX7_fault 68 = .ok (.dup, 1) := by decide +kernel
theorem dX7_fault_69 : decode cX7_fault 69 = .ok (.getfield 69, 3) := by decide +kernel
theorem dX7_fault_72 : decode cX7_fault 72 = .ok (.iconst 1, 1) := by decide +kernel
theorem dX7_fault_73 : decode cX7_fault 73 = .ok (.iadd, 1) := by decide +kernel
theorem dX7_fault_74 : decode cX7_fault 74 = .ok (.putfield 69, 3) := by decide +kernel
theorem dX7_fault_77 : decode cX7_fault 77 = .ok (.aload_n 0, 1) := by decide +kernel
theorem dX7_fault_78 : decode cX7_fault 78 = .ok (.aload_n 0, 1) := by decide +kernel
theorem dX7_fault_79 : decode cX7_fault 79 = .ok (.getfield 7, 3) := by decide +kernel
theorem dX7_fault_82 : decode cX7_fault 82 = .ok (.iload_n 1, 1) := by decide +kernel
theorem dX7_fault_83 : decode cX7_fault 83 = .ok (.iaload, 1) := by decide +kernel
theorem dX7_fault_84 : decode cX7_fault 84 = .ok (.invokevirtual 93, 3) := by decide +kernel
theorem dX7_fault_87 : decode cX7_fault 87 = .ok (.ifCond .ne 5, 3) := by decide +kernel
theorem dX7_fault_90 : decode cX7_fault 90 = .ok (.iload_n 1, 1) := by decide +kernel
theorem dX7_fault_91 : decode cX7_fault 91 = .ok (.ireturn, 1) := by decide +kernel
theorem dX7_fault_92 : decode cX7_fault 92 = .ok (.goto (-41), 3) := by decide +kernel
theorem dX7_fault_95 : decode cX7_fault 95 = .ok (.bipush (-4), 2) := by decide +kernel
theorem dX7_fault_97 : decode cX7_fault 97 = .ok (.ireturn, 1) := by decide +kernel
theorem dX7_lay_0 : decode cX7_lay 0 = .ok (.aload_n 0, 1) := by decide +kernel
theorem dX7_lay_1 : decode cX7_lay 1 = .ok (.invokevirtual 96, 3) := by decide +kernel
theorem dX7_lay_4 : decode cX7_lay 4 = .ok (.bipush (-4), 2) := by decide +kernel
theorem dX7_lay_6 : decode cX7_lay 6 = .ok (.if_icmp .eq 6, 3) := by decide +kernel
theorem dX7_lay_9 : decode cX7_lay 9 = .ok (.bipush (-2), 2) := by decide +kernel
theorem dX7_lay_11 : decode cX7_lay 11 = .ok (.ireturn, 1) := by decide +kernel
theorem dX7_lay_12 : decode cX7_lay 12 = .ok (.iconst 0, 1) := by decide +kernel
theorem dX7_lay_13 : decode cX7_lay 13 = .ok (.istore_n 1, 1) := by decide +kernel
theorem dX7_lay_14 : decode cX7_lay 14 = .ok (.iload_n 1, 1) := by decide +kernel
theorem dX7_lay_15 : decode cX7_lay 15 = .ok (.bipush 24, 2) := by decide +kernel
theorem dX7_lay_17 : decode cX7_lay 17 = .ok (.if_icmp .ge 21, 3) := by decide +kernel
theorem dX7_lay_20 : decode cX7_lay 20 = .ok (.aload_n 0, 1) := by decide +kernel
theorem dX7_lay_21 : decode cX7_lay 21 = .ok (.getfield 13, 3) := by decide +kernel
theorem dX7_lay_24 : decode cX7_lay 24 = .ok (.iload_n 1, 1) := by decide +kernel
theorem dX7_lay_25 : decode cX7_lay 25 = .ok (.aload_n 0, 1) := by decide +kernel
theorem dX7_lay_26 : decode cX7_lay 26 = .ok (.getfield 16, 3) := by decide +kernel
theorem dX7_lay_29 : decode cX7_lay 29 = .ok (.iload_n 1, 1) := by decide +kernel
theorem dX7_lay_30 : decode cX7_lay 30 = .ok (.iaload, 1) := by decide +kernel
theorem dX7_lay_31 : decode cX7_lay 31 = .ok (.iastore, 1) := by decide +kernel
theorem dX7_lay_32 : decode cX7_lay 32 = .ok (.iinc 1 1, 3) := by decide +kernel
theorem dX7_lay_35 : decode cX7_lay 35 = .ok (.goto (-21), 3) := by decide +kernel
theorem dX7_lay_38 : decode cX7_lay 38 = .ok (.aload_n 0, 1) := by decide +kernel
theorem dX7_lay_39 : decode cX7_lay 39 = .ok (.iconst 0, 1) := by decide +kernel
theorem dX7_lay_40 : decode cX7_lay 40 = .ok (.putfield 100, 3) := by decide +kernel
theorem dX7_lay_43 : decode cX7_lay 43 = .ok (.aload_n 0, 1) := by decide +kernel
theorem dX7_lay_44 : decode cX7_lay 44 = .ok (.getfield 13, 3) := by decide +kernel
theorem dX7_lay_47 : decode cX7_lay 47 = .ok (.bipush 20, 2) := by decide +kernel
theorem dX7_lay_49 : decode cX7_lay 49 = .ok (.iaload, 1) := by decide +kernel
theorem dX7_lay_50 : decode cX7_lay 50 = .ok (.ireturn, 1) := by decide +kernel
theorem dX7_note_0 : decode cX7_note 0 = .ok (.aload_n 0, 1) := by decide +kernel
theorem dX7_note_1 : decode cX7_note 1 = .ok (.getfield 100, 3) := by decide +kernel
theorem dX7_note_4 : decode cX7_note 4 = .ok (.bipush 6, 2) := by decide +kernel
theorem dX7_note_6 : decode cX7_note 6 = .ok (.if_icmp .ne 42, 3) := by decide +kernel
theorem dX7_note_9 : decode cX7_note 9 = .ok (.iconst 0, 1) := by decide +kernel
theorem dX7_note_10 : decode cX7_note 10 = .ok (.istore_n 1, 1) := by decide +kernel
theorem dX7_note_11 : decode cX7_note 11 = .ok (.iload_n 1, 1) := by decide +kernel
theorem dX7_note_12 : decode cX7_note 12 = .ok (.bipush 120, 2) := by decide +kernel
theorem dX7_note_14 : decode cX7_note 14 = .ok (.if_icmp .ge 24, 3) := by decide +kernel
theorem dX7_note_17 : decode cX7_note 17 = .ok (.aload_n 0, 1) := by decide +kernel
theorem dX7_note_18 : decode cX7_note 18 = .ok (.getfield 19, 3) := by decide +kernel
theorem dX7_note_21 : decode cX7_note 21 = .ok (.iload_n 1, 1) := by decide +kernel
theorem dX7_note_22 : decode cX7_note 22 = .ok (.aload_n 0, 1) := by decide +kernel
theorem dX7_note_23 : decode cX7_note 23 = .ok (.getfield 19, 3) := by decide +kernel
theorem dX7_note_26 : decode cX7_note 26 = .ok (.bipush 24, 2) := by decide +kernel
theorem dX7_note_28 : decode cX7_note 28 = .ok (.iload_n 1, 1) := by decide +kernel
theorem dX7_note_29 : decode cX7_note 29 = .ok (.iadd, 1) := by decide +kernel
theorem dX7_note_30 : decode cX7_note 30 = .ok (.iaload, 1) := by decide +kernel
theorem dX7_note_31 : decode cX7_note 31 = .ok (.iastore, 1) := by decide +kernel
theorem dX7_note_32 : decode cX7_note 32 = .ok (.iinc 1 1, 3) := by decide +kernel
theorem dX7_note_35 : decode cX7_note 35 = .ok (.goto (-24), 3) := by decide +kernel
theorem dX7_note_38 : decode cX7_note 38 = .ok (.aload_n 0, 1) := by decide +kernel
theorem dX7_note_39 : decode cX7_note 39 = .ok (.dup, 1) := by decide +kernel
theorem dX7_note_40 : decode cX7_note 40 = .ok (.getfield 100, 3) := by decide +kernel
theorem dX7_note_43 : decode cX7_note 43 = .ok (.iconst 1, 1) := by decide +kernel
theorem dX7_note_44 : decode cX7_note 44 = .ok (.isub, 1) := by decide +kernel
theorem dX7_note_45 : decode cX7_note 45 = .ok (.putfield 100, 3) := by decide +kernel
theorem dX7_note_48 : decode cX7_note 48 = .ok (.iconst 0, 1) := by decide +kernel
theorem dX7_note_49 : decode cX7_note 49 = .ok (.istore_n 1, 1) := by decide +kernel
theorem dX7_note_50 : decode cX7_note 50 = .ok (.iload_n 1, 1) := by decide +kernel
theorem dX7_note_51 : decode cX7_note 51 = .ok (.bipush 24, 2) := by decide +kernel
theorem dX7_note_53 : decode cX7_note 53 = .ok (.if_icmp .ge 29, 3) := by decide +kernel
theorem dX7_note_56 : decode cX7_note 56 = .ok (.aload_n 0, 1) := by decide +kernel
theorem dX7_note_57 : decode cX7_note 57 = .ok (.getfield 19, 3) := by decide +kernel
theorem dX7_note_60 : decode cX7_note 60 = .ok (.bipush 24, 2) := by decide +kernel
theorem dX7_note_62 : decode cX7_note 62 = .ok (.aload_n 0, 1) := by decide +kernel
theorem dX7_note_63 : decode cX7_note 63 = .ok (.getfield 100, 3) := by decide +kernel
theorem dX7_note_66 : decode cX7_note 66 = .ok (.imul, 1) := by decide +kernel
theorem dX7_note_67 : decode cX7_note 67 = .ok (.iload_n 1, 1) := by decide +kernel
theorem dX7_note_68 : decode cX7_note 68 = .ok (.iadd, 1) := by decide +kernel
theorem dX7_note_69 : decode cX7_note 69 = .ok (.aload_n 0, 1) := by decide +kernel
theorem dX7_note_70 : decode cX7_note 70 = .ok (.getfield 13, 3) := by decide +kernel
theorem dX7_note_73 : decode cX7_note 73 = .ok (.iload_n 1, 1) := by decide +kernel
theorem dX7_note_74 : decode cX7_note 74 = .ok (.iaload, 1) := by decide +kernel
theorem dX7_note_75 : decode cX7_note 75 = .ok (.iastore, 1) := by decide +kernel
theorem dX7_note_76 : decode cX7_note 76 = .ok (.iinc 1 1, 3) := by decide +kernel
theorem dX7_note_79 : decode cX7_note 79 = .ok (.goto (-29), 3) := by decide +kernel
theorem dX7_note_82 : decode cX7_note 82 = .ok (.aload_n 0, 1) := by decide +kernel
theorem dX7_note_83 : decode cX7_note 83 = .ok (.dup, 1) := by decide +kernel
theorem dX7_note_84 : decode cX7_note 84 = .ok (.getfield 100, 3) := by decide +kernel
theorem dX7_note_87 : decode cX7_note 87 = .ok (.iconst 1, 1) := by decide +kernel
theorem dX7_note_88 : decode cX7_note 88 = .ok (.iadd, 1) := by decide +kernel
theorem dX7_note_89 : decode cX7_note 89 = .ok (.putfield 100, 3) := by decide +kernel
theorem dX7_note_92 : decode cX7_note 92 = .ok (.return_, 1) := by decide +kernel
theorem dX7_undo_0 : decode cX7_undo 0 = .ok (.aload_n 0, 1) := by decide +kernel
theorem dX7_undo_1 : decode cX7_undo 1 = .ok (.getfield 100, 3) := by decide +kernel
theorem dX7_undo_4 : decode cX7_undo 4 = .ok (.ifCond .ne 6, 3) := by decide +kernel
theorem dX7_undo_7 : decode cX7_undo 7 = .ok (.bipush (-2), 2) := by decide +kernel
theorem dX7_undo_9 : decode cX7_undo 9 = .ok (.ireturn, 1) := by decide +kernel
theorem dX7_undo_10 : decode cX7_undo 10 = .ok (.aload_n 0, 1) := by decide +kernel
theorem dX7_undo_11 : decode cX7_undo 11 = .ok (.dup, 1) := by decide +kernel
theorem dX7_undo_12 : decode cX7_undo 12 = .ok (.getfield 100, 3) := by decide +kernel
theorem dX7_undo_15 : decode cX7_undo 15 = .ok (.iconst 1, 1) := by decide +kernel
theorem dX7_undo_16 : decode cX7_undo 16 = .ok (.isub, 1) := by decide +kernel
theorem dX7_undo_17 : decode cX7_undo 17 = .ok (.putfield 100, 3) := by decide +kernel
theorem dX7_undo_20 : decode cX7_undo 20 = .ok (.iconst 0, 1) := by decide +kernel
theorem dX7_undo_21 : decode cX7_undo 21 = .ok (.istore_n 1, 1) := by decide +kernel
theorem dX7_undo_22 : decode cX7_undo 22 = .ok (.iload_n 1, 1) := by decide +kernel
theorem dX7_undo_23 : decode cX7_undo 23 = .ok (.bipush 24, 2) := by decide +kernel
theorem dX7_undo_25 : decode cX7_undo 25 = .ok (.if_icmp .ge 29, 3) := by decide +kernel
theorem dX7_undo_28 : decode cX7_undo 28 = .ok (.aload_n 0, 1) := by decide +kernel
theorem dX7_undo_29 : decode cX7_undo 29 = .ok (.getfield 13, 3) := by decide +kernel
theorem dX7_undo_32 : decode cX7_undo 32 = .ok (.iload_n 1, 1) := by decide +kernel
theorem dX7_undo_33 : decode cX7_undo 33 = .ok (.aload_n 0, 1) := by decide +kernel
theorem dX7_undo_34 : decode cX7_undo 34 = .ok (.getfield 19, 3) := by decide +kernel
theorem dX7_undo_37 : decode cX7_undo 37 = .ok (.bipush 24, 2) := by decide +kernel
theorem dX7_undo_39 : decode cX7_undo 39 = .ok (.aload_n 0, 1) := by decide +kernel
theorem dX7_undo_40 : decode cX7_undo 40 = .ok (.getfield 100, 3) := by decide +kernel
theorem dX7_undo_43 : decode cX7_undo 43 = .ok (.imul, 1) := by decide +kernel
theorem dX7_undo_44 : decode cX7_undo 44 = .ok (.iload_n 1, 1) := by decide +kernel
theorem dX7_undo_45 : decode cX7_undo 45 = .ok (.iadd, 1) := by decide +kernel
theorem dX7_undo_46 : decode cX7_undo 46 = .ok (.iaload, 1) := by decide +kernel
theorem dX7_undo_47 : decode cX7_undo 47 = .ok (.iastore, 1) := by decide +kernel
theorem dX7_undo_48 : decode cX7_undo 48 = .ok (.iinc 1 1, 3) := by decide +kernel
theorem dX7_undo_51 : decode cX7_undo 51 = .ok (.goto (-29), 3) := by decide +kernel
theorem dX7_undo_54 : decode cX7_undo 54 = .ok (.aload_n 0, 1) := by decide +kernel
theorem dX7_undo_55 : decode cX7_undo 55 = .ok (.getfield 100, 3) := by decide +kernel
theorem dX7_undo_58 : decode cX7_undo 58 = .ok (.ireturn, 1) := by decide +kernel
theorem dX7_becomes_0 : decode cX7_becomes 0 = .ok (.aload_n 0, 1) := by decide +kernel
theorem dX7_becomes_1 : decode cX7_becomes 1 = .ok (.getfield 13, 3) := by decide +kernel
theorem dX7_becomes_4 : decode cX7_becomes 4 = .ok (.iload_n 1, 1) := by decide +kernel
theorem dX7_becomes_5 : decode cX7_becomes 5 = .ok (.iaload, 1) := by decide +kernel
theorem dX7_becomes_6 : decode cX7_becomes 6 = .ok (.istore_n 3, 1) := by decide +kernel
theorem dX7_becomes_7 : decode cX7_becomes 7 = .ok (.iload_n 3, 1) := by decide +kernel
theorem dX7_becomes_8 : decode cX7_becomes 8 = .ok (.iload_n 2, 1) := by decide +kernel
theorem dX7_becomes_9 : decode cX7_becomes 9 = .ok (.if_icmp .ne 6, 3) := by decide +kernel
theorem dX7_becomes_12 : decode cX7_becomes 12 = .ok (.bipush (-2), 2) := by decide +kernel
theorem dX7_becomes_14 : decode cX7_becomes 14 = .ok (.ireturn, 1) := by decide +kernel
theorem dX7_becomes_15 : decode cX7_becomes 15 = .ok (.aload_n 0, 1) := by decide +kernel
theorem dX7_becomes_16 : decode cX7_becomes 16 = .ok (.invokevirtual 103, 3) := by decide +kernel
theorem dX7_becomes_19 : decode cX7_becomes 19 = .ok (.aload_n 0, 1) := by decide +kernel
theorem dX7_becomes_20 : decode cX7_becomes 20 = .ok (.getfield 13, 3) := by decide +kernel
theorem dX7_becomes_23 : decode cX7_becomes 23 = .ok (.iload_n 1, 1) := by decide +kernel
theorem dX7_becomes_24 : decode cX7_becomes 24 = .ok (.iload_n 2, 1) := by decide +kernel
theorem dX7_becomes_25 : decode cX7_becomes 25 = .ok (.iastore, 1) := by decide +kernel
theorem dX7_becomes_26 : decode cX7_becomes 26 = .ok (.iload_n 3, 1) := by decide +kernel
theorem dX7_becomes_27 : decode cX7_becomes 27 = .ok (.ireturn, 1) := by decide +kernel
theorem dX7_isPanel_0 : decode cX7_isPanel 0 = .ok (.iload_n 1, 1) := by decide +kernel
theorem dX7_isPanel_1 : decode cX7_isPanel 1 = .ok (.i2l, 1) := by decide +kernel
theorem dX7_isPanel_2 : decode cX7_isPanel 2 = .ok (.lconst 0, 1) := by decide +kernel
theorem dX7_isPanel_3 : decode cX7_isPanel 3 = .ok (.aload_n 0, 1) := by decide +kernel
theorem dX7_isPanel_4 : decode cX7_isPanel 4 = .ok (.getfield 13, 3) := by decide +kernel
theorem dX7_isPanel_7 : decode cX7_isPanel 7 = .ok (.bipush 20, 2) := by decide +kernel
theorem dX7_isPanel_9 : decode cX7_isPanel 9 = .ok (.iaload, 1) := by decide +kernel
theorem dX7_isPanel_10 : decode cX7_isPanel 10 = .ok (.iconst 1, 1) := by decide +kernel
theorem dX7_isPanel_11 : decode cX7_isPanel 11 = .ok (.isub, 1) := by decide +kernel
theorem dX7_isPanel_12 : decode cX7_isPanel 12 = .ok (.i2l, 1) := by decide +kernel
theorem dX7_isPanel_13 : decode cX7_isPanel 13 = .ok (.invokestatic 43, 3) := by decide +kernel
theorem dX7_isPanel_16 : decode cX7_isPanel 16 = .ok (.ireturn, 1) := by decide +kernel
theorem dX7_set_0 : decode cX7_set 0 = .ok (.aload_n 0, 1) := by decide +kernel
theorem dX7_set_1 : decode cX7_set 1 = .ok (.iload_n 1, 1) := by decide +kernel
theorem dX7_set_2 : decode cX7_set 2 = .ok (.invokevirtual 106, 3) := by decide +kernel
theorem dX7_set_5 : decode cX7_set 5 = .ok (.ifCond .eq 15, 3) := by decide +kernel
theorem dX7_set_8 : decode cX7_set 8 = .ok (.iload_n 2, 1) := by decide +kernel
theorem dX7_set_9 : decode cX7_set 9 = .ok (.i2l, 1) := by decide +kernel
theorem dX7_set_10 : decode cX7_set 10 = .ok (.lconst 0, 1) := by decide +kernel
theorem dX7_set_11 : decode cX7_set 11 = .ok (.ldc2_w 41, 3) := by decide +kernel
theorem dX7_set_14 : decode cX7_set 14 = .ok (.invokestatic 43, 3) := by decide +kernel
theorem dX7_set_17 : decode cX7_set 17 = .ok (.ifCond .ne 5, 3) := by decide +kernel
theorem dX7_set_20 : decode cX7_set 20 = .ok (.iconst (-1), 1) := by decide +kernel
theorem dX7_set_21 : decode cX7_set 21 = .ok (.ireturn, 1) := by decide +kernel
theorem dX7_set_22 : decode cX7_set 22 = .ok (.aload_n 0, 1) := by decide +kernel
theorem dX7_set_23 : decode cX7_set 23 = .ok (.getfield 13, 3) := by decide +kernel
theorem dX7_set_26 : decode cX7_set 26 = .ok (.iconst 5, 1) := by decide +kernel
theorem dX7_set_27 : decode cX7_set 27 = .ok (.iload_n 1, 1) := by decide +kernel
theorem dX7_set_28 : decode cX7_set 28 = .ok (.imul, 1) := by decide +kernel
theorem dX7_set_29 : decode cX7_set 29 = .ok (.iconst 1, 1) := by decide +kernel
theorem dX7_set_30 : decode cX7_set 30 = .ok (.iadd, 1) := by decide +kernel
theorem dX7_set_31 : decode cX7_set 31 = .ok (.iaload, 1) := by decide +kernel
theorem dX7_set_32 : decode cX7_set 32 = .ok (.istore 4, 2) := by decide +kernel
theorem dX7_set_34 : decode cX7_set 34 = .ok (.iload_n 2, 1) := by decide +kernel
theorem dX7_set_35 : decode cX7_set 35 = .ok (.ifCond .ne 20, 3) := by decide +kernel
theorem dX7_set_38 : decode cX7_set 38 = .ok (.aload_n 0, 1) := by decide +kernel
theorem dX7_set_39 : decode cX7_set 39 = .ok (.getfield 13, 3) := by decide +kernel
theorem dX7_set_42 : decode cX7_set 42 = .ok (.iconst 5, 1) := by decide +kernel
theorem dX7_set_43 : decode cX7_set 43 = .ok (.iload_n 1, 1) := by decide +kernel
theorem dX7_set_44 : decode cX7_set 44 = .ok (.imul, 1) := by decide +kernel
theorem dX7_set_45 : decode cX7_set 45 = .ok (.iaload, 1) := by decide +kernel
theorem dX7_set_46 : decode cX7_set 46 = .ok (.iload 4, 2) := by decide +kernel
theorem dX7_set_48 : decode cX7_set 48 = .ok (.iload_n 3, 1) := by decide +kernel
theorem dX7_set_49 : decode cX7_set 49 = .ok (.invokestatic 86, 3) := by decide +kernel
theorem dX7_set_52 : decode cX7_set 52 = .ok (.goto 31, 3) := by decide +kernel
theorem dX7_set_55 : decode cX7_set 55 = .ok (.iload_n 2, 1) := by decide +kernel
theorem dX7_set_56 : decode cX7_set 56 = .ok (.iconst 1, 1) := by decide +kernel
theorem dX7_set_57 : decode cX7_set 57 = .ok (.if_icmp .ne 17, 3) := by decide +kernel
theorem dX7_set_60 : decode cX7_set 60 = .ok (.iload_n 3, 1) := by decide +kernel
theorem dX7_set_61 : decode cX7_set 61 = .ok (.i2l, 1) := by decide +kernel
theorem dX7_set_62 : decode cX7_set 62 = .ok (.lconst 0, 1) := by decide +kernel
theorem dX7_set_63 : decode cX7_set 63 = .ok (.iload 4, 2) := by decide +kernel
theorem dX7_set_65 : decode cX7_set 65 = .ok (.iconst 1, 1) := by decide +kernel
theorem dX7_set_66 : decode cX7_set 66 = .ok (.isub, 1) := by decide +kernel
theorem dX7_set_67 : decode cX7_set 67 = .ok (.i2l, 1) := by decide +kernel
theorem dX7_set_68 : decode cX7_set 68 = .ok (.invokestatic 43, 3) := by decide +kernel
theorem dX7_set_71 : decode cX7_set 71 = .ok (.goto 12, 3) := by decide +kernel
theorem dX7_set_74 : decode cX7_set 74 = .ok (.iload_n 3, 1) := by decide +kernel
theorem dX7_set_75 : decode cX7_set 75 = .ok (.i2l, 1) := by decide +kernel
theorem dX7_set_76 : decode cX7_set 76 = .ok (.lconst 1, 1) := by decide +kernel
theorem dX7_set_77 : decode cX7_set 77 = .ok (.ldc2_w 109, 3) := by decide +kernel
theorem dX7_set_80 : decode cX7_set 80 = .ok (.invokestatic 43, 3) := by decide +kernel
theorem dX7_set_83 : decode cX7_set 83 = .ok (.istore 5, 2) := by decide +kernel
theorem dX7_set_85 : decode cX7_set 85 = .ok (.iload 5, 2) := by decide +kernel
theorem dX7_set_87 : decode cX7_set 87 = .ok (.ifCond .eq 18, 3) := by decide +kernel
theorem dX7_set_90 : decode cX7_set 90 = .ok (.aload_n 0, 1) := by decide +kernel
theorem dX7_set_91 : decode cX7_set 91 = .ok (.iconst 5, 1) := by decide +kernel
theorem dX7_set_92 : decode cX7_set 92 = .ok (.iload_n 1, 1) := by decide +kernel
theorem dX7_set_93 : decode cX7_set 93 = .ok (.imul, 1) := by decide +kernel
theorem dX7_set_94 : decode cX7_set 94 = .ok (.iconst 2, 1) := by decide +kernel
theorem dX7_set_95 : decode cX7_set 95 = .ok (.iadd, 1) := by decide +kernel
theorem dX7_set_96 : decode cX7_set 96 = .ok (.iload_n 2, 1) := by decide +kernel
theorem dX7_set_97 : decode cX7_set 97 = .ok (.iadd, 1) := by decide +kernel
theorem dX7_set_98 : decode cX7_set 98 = .ok (.iload_n 3, 1) := by decide +kernel
theorem dX7_set_99 : decode cX7_set 99 = .ok (.invokevirtual 111, 3) := by decide +kernel
theorem dX7_set_102 : decode cX7_set 102 = .ok (.goto 4, 3) := by decide +kernel
theorem dX7_set_105 : decode cX7_set 105 = .ok (.iconst (-1), 1) := by decide +kernel
theorem dX7_set_106 : decode cX7_set 106 = .ok (.ireturn, 1) := by decide +kernel
theorem dX7_tell_0 : decode cX7_tell 0 = .ok (.iload_n 1, 1) := by decide +kernel
theorem dX7_tell_1 : decode cX7_tell 1 = .ok (.ifCond .ne 15, 3) := by decide +kernel
theorem dX7_tell_4 : decode cX7_tell 4 = .ok (.iload_n 2, 1) := by decide +kernel
theorem dX7_tell_5 : decode cX7_tell 5 = .ok (.i2l, 1) := by decide +kernel
theorem dX7_tell_6 : decode cX7_tell 6 = .ok (.lconst 1, 1) := by decide +kernel
theorem dX7_tell_7 : decode cX7_tell 7 = .ok (.ldc2_w 114, 3) := by decide +kernel
theorem dX7_tell_10 : decode cX7_tell 10 = .ok (.invokestatic 43, 3) := by decide +kernel
theorem dX7_tell_13 : decode cX7_tell 13 = .ok (.goto 44, 3) := by decide +kernel
theorem dX7_tell_16 : decode cX7_tell 16 = .ok (.iload_n 1, 1) := by decide +kernel
theorem dX7_tell_17 : decode cX7_tell 17 = .ok (.iconst 1, 1) := by decide +kernel
theorem dX7_tell_18 : decode cX7_tell 18 = .ok (.if_icmp .ne 17, 3) := by decide +kernel
theorem dX7_tell_21 : decode cX7_tell 21 = .ok (.iload_n 2, 1) := by decide +kernel
theorem dX7_tell_22 : decode cX7_tell 22 = .ok (.i2l, 1) := by decide +kernel
theorem dX7_tell_23 : decode cX7_tell 23 = .ok (.ldc2_w 114, 3) := by decide +kernel
theorem dX7_tell_26 : decode cX7_tell 26 = .ok (.ldc2_w 116, 3) := by decide +kernel
theorem dX7_tell_29 : decode cX7_tell 29 = .ok (.invokestatic 43, 3) := by decide +kernel
theorem dX7_tell_32 : decode cX7_tell 32 = .ok (.goto 25, 3) := by decide +kernel
theorem dX7_tell_35 : decode cX7_tell 35 = .ok (.iload_n 1, 1) := by decide +kernel
theorem dX7_tell_36 : decode cX7_tell 36 = .ok (.iconst 2, 1) := by decide +kernel
theorem dX7_tell_37 : decode cX7_tell 37 = .ok (.if_icmp .ne 19, 3) := by decide +kernel
theorem dX7_tell_40 : decode cX7_tell 40 = .ok (.iload_n 2, 1) := by decide +kernel
theorem dX7_tell_41 : decode cX7_tell 41 = .ok (.i2l, 1) := by decide +kernel
theorem dX7_tell_42 : decode cX7_tell 42 = .ok (.lconst 0, 1) := by decide +kernel
theorem dX7_tell_43 : decode cX7_tell 43 = .ok (.ldc2_w 118, 3) := by decide +kernel
theorem dX7_tell_46 : decode cX7_tell 46 = .ok (.invokestatic 43, 3) := by decide +kernel
theorem dX7_tell_49 : decode cX7_tell 49 = .ok (.ifCond .eq 7, 3) := by decide +kernel
theorem dX7_tell_52 : decode cX7_tell 52 = .ok (.iconst 1, 1) := by decide +kernel
theorem dX7_tell_53 : decode cX7_tell 53 = .ok (.goto 4, 3) := by decide +kernel
theorem dX7_tell_56 : decode cX7_tell 56 = .ok (.iconst 0, 1) := by decide +kernel
theorem dX7_tell_57 : decode cX7_tell 57 = .ok (.istore_n 3, 1) := by decide +kernel
theorem dX7_tell_58 : decode cX7_tell 58 = .ok (.iload_n 3, 1) := by decide +kernel
theorem dX7_tell_59 : decode cX7_tell 59 = .ok (.ifCond .eq 15, 3) := by decide +kernel
theorem dX7_tell_62 : decode cX7_tell 62 = .ok (.aload_n 0, 1) := by decide +kernel
theorem dX7_tell_63 : decode cX7_tell 63 = .ok (.bipush 21, 2) := by decide +kernel
theorem dX7_tell_65 : decode cX7_tell 65 = .ok (.iload_n 1, 1) := by decide +kernel
theorem dX7_tell_66 : decode cX7_tell 66 = .ok (.iadd, 1) := by decide +kernel
theorem dX7_tell_67 : decode cX7_tell 67 = .ok (.iload_n 2, 1) := by decide +kernel
theorem dX7_tell_68 : decode cX7_tell 68 = .ok (.invokevirtual 111, 3) := by decide +kernel
theorem dX7_tell_71 : decode cX7_tell 71 = .ok (.goto 4, 3) := by decide +kernel
theorem dX7_tell_74 : decode cX7_tell 74 = .ok (.iconst (-1), 1) := by decide +kernel
theorem dX7_tell_75 : decode cX7_tell 75 = .ok (.ireturn, 1) := by decide +kernel
theorem dX7_take_0 : decode cX7_take 0 = .ok (.aload_n 0, 1) := by decide +kernel
theorem dX7_take_1 : decode cX7_take 1 = .ok (.iload_n 1, 1) := by decide +kernel
theorem dX7_take_2 : decode cX7_take 2 = .ok (.invokevirtual 106, 3) := by decide +kernel
theorem dX7_take_5 : decode cX7_take 5 = .ok (.ifCond .ne 5, 3) := by decide +kernel
theorem dX7_take_8 : decode cX7_take 8 = .ok (.iconst (-1), 1) := by decide +kernel
theorem dX7_take_9 : decode cX7_take 9 = .ok (.ireturn, 1) := by decide +kernel
theorem dX7_take_10 : decode cX7_take 10 = .ok (.aload_n 0, 1) := by decide +kernel
theorem dX7_take_11 : decode cX7_take 11 = .ok (.invokevirtual 103, 3) := by decide +kernel
theorem dX7_take_14 : decode cX7_take 14 = .ok (.iconst 5, 1) := by decide +kernel
theorem dX7_take_15 : decode cX7_take 15 = .ok (.iload_n 1, 1) := by decide +kernel
theorem dX7_take_16 : decode cX7_take 16 = .ok (.imul, 1) := by decide +kernel
theorem dX7_take_17 : decode cX7_take 17 = .ok (.istore_n 2, 1) := by decide +kernel
theorem dX7_take_18 : decode cX7_take 18 = .ok (.iload_n 2, 1) := by decide +kernel
theorem dX7_take_19 : decode cX7_take 19 = .ok (.bipush 15, 2) := by decide +kernel
theorem dX7_take_21 : decode cX7_take 21 = .ok (.if_icmp .ge 23, 3) := by decide +kernel
theorem dX7_take_24 : decode cX7_take 24 = .ok (.aload_n 0, 1) := by decide +kernel
theorem dX7_take_25 : decode cX7_take 25 = .ok (.getfield 13, 3) := by decide +kernel
theorem dX7_take_28 : decode cX7_take 28 = .ok (.iload_n 2, 1) := by decide +kernel
theorem dX7_take_29 : decode cX7_take 29 = .ok (.aload_n 0, 1) := by decide +kernel
theorem dX7_take_30 : decode cX7_take 30 = .ok (.getfield 13, 3) := by decide +kernel
theorem dX7_take_33 : decode cX7_take 33 = .ok (.iload_n 2, 1) := by decide +kernel
theorem dX7_take_34 : decode cX7_take 34 = .ok (.iconst 5, 1) := by decide +kernel
theorem dX7_take_35 : decode cX7_take 35 = .ok (.iadd, 1) := by decide +kernel
theorem dX7_take_36 : decode cX7_take 36 = .ok (.iaload, 1) := by decide +kernel
theorem dX7_take_37 : decode cX7_take 37 = .ok (.iastore, 1) := by decide +kernel
theorem dX7_take_38 : decode cX7_take 38 = .ok (.iinc 2 1, 3) := by decide +kernel
theorem dX7_take_41 : decode cX7_take 41 = .ok (.goto (-23), 3) := by decide +kernel
theorem dX7_take_44 : decode cX7_take 44 = .ok (.aload_n 0, 1) := by decide +kernel
theorem dX7_take_45 : decode cX7_take 45 = .ok (.getfield 13, 3) := by decide +kernel
theorem dX7_take_48 : decode cX7_take 48 = .ok (.bipush 20, 2) := by decide +kernel
theorem dX7_take_50 : decode cX7_take 50 = .ok (.dup2, 1) := by decide +kernel
theorem dX7_take_51 : decode cX7_take 51 = .ok (.iaload, 1) := by decide +kernel
theorem dX7_take_52 : decode cX7_take 52 = .ok (.iconst 1, 1) := by decide +kernel
theorem dX7_take_53 : decode cX7_take 53 = .ok (.isub, 1) := by decide +kernel
theorem dX7_take_54 : decode cX7_take 54 = .ok (.iastore, 1) := by decide +kernel
theorem dX7_take_55 : decode cX7_take 55 = .ok (.aload_n 0, 1) := by decide +kernel
theorem dX7_take_56 : decode cX7_take 56 = .ok (.getfield 13, 3) := by decide +kernel
theorem dX7_take_59 : decode cX7_take 59 = .ok (.bipush 20, 2) := by decide +kernel
theorem dX7_take_61 : decode cX7_take 61 = .ok (.iaload, 1) := by decide +kernel
theorem dX7_take_62 : decode cX7_take 62 = .ok (.ireturn, 1) := by decide +kernel
theorem dX7_period_0 : decode cX7_period 0 = .ok (.aload_n 0, 1) := by decide +kernel
theorem dX7_period_1 : decode cX7_period 1 = .ok (.getfield 13, 3) := by decide +kernel
theorem dX7_period_4 : decode cX7_period 4 = .ok (.iconst 5, 1) := by decide +kernel
theorem dX7_period_5 : decode cX7_period 5 = .ok (.iload_n 1, 1) := by decide +kernel
theorem dX7_period_6 : decode cX7_period 6 = .ok (.imul, 1) := by decide +kernel
theorem dX7_period_7 : decode cX7_period 7 = .ok (.iaload, 1) := by decide +kernel
theorem dX7_period_8 : decode cX7_period 8 = .ok (.iconst 1, 1) := by decide +kernel
theorem dX7_period_9 : decode cX7_period 9 = .ok (.if_icmp .ne 18, 3) := by decide +kernel
theorem dX7_period_12 : decode cX7_period 12 = .ok (.aload_n 0, 1) := by decide +kernel
theorem dX7_period_13 : decode cX7_period 13 = .ok (.getfield 13, 3) := by decide +kernel
theorem dX7_period_16 : decode cX7_period 16 = .ok (.iconst 5, 1) := by decide +kernel
theorem dX7_period_17 : decode cX7_period 17 = .ok (.iload_n 1, 1) := by decide +kernel
theorem dX7_period_18 : decode cX7_period 18 = .ok (.imul, 1) := by decide +kernel
theorem dX7_period_19 : decode cX7_period 19 = .ok (.iconst 1, 1) := by decide +kernel
theorem dX7_period_20 : decode cX7_period 20 = .ok (.iadd, 1) := by decide +kernel
theorem dX7_period_21 : decode cX7_period 21 = .ok (.iaload, 1) := by decide +kernel
theorem dX7_period_22 : decode cX7_period 22 = .ok (.iconst 1, 1) := by decide +kernel
theorem dX7_period_23 : decode cX7_period 23 = .ok (.isub, 1) := by decide +kernel
theorem dX7_period_24 : decode cX7_period 24 = .ok (.goto 13, 3) := by decide +kernel
theorem dX7_period_27 : decode cX7_period 27 = .ok (.aload_n 0, 1) := by decide +kernel
theorem dX7_period_28 : decode cX7_period 28 = .ok (.getfield 13, 3) := by decide +kernel
theorem dX7_period_31 : decode cX7_period 31 = .ok (.iconst 5, 1) := by decide +kernel
theorem dX7_period_32 : decode cX7_period 32 = .ok (.iload_n 1, 1) := by decide +kernel
theorem dX7_period_33 : decode cX7_period 33 = .ok (.imul, 1) := by decide +kernel
theorem dX7_period_34 : decode cX7_period 34 = .ok (.iconst 1, 1) := by decide +kernel
theorem dX7_period_35 : decode cX7_period 35 = .ok (.iadd, 1) := by decide +kernel
theorem dX7_period_36 : decode cX7_period 36 = .ok (.iaload, 1) := by decide +kernel
theorem dX7_period_37 : decode cX7_period 37 = .ok (.ireturn, 1) := by decide +kernel
theorem dX7_depth_0 : decode cX7_depth 0 = .ok (.aload_n 0, 1) := by decide +kernel
theorem dX7_depth_1 : decode cX7_depth 1 = .ok (.getfield 13, 3) := by decide +kernel
theorem dX7_depth_4 : decode cX7_depth 4 = .ok (.iconst 5, 1) := by decide +kernel
theorem dX7_depth_5 : decode cX7_depth 5 = .ok (.iload_n 1, 1) := by decide +kernel
theorem dX7_depth_6 : decode cX7_depth 6 = .ok (.imul, 1) := by decide +kernel
theorem dX7_depth_7 : decode cX7_depth 7 = .ok (.iconst 1, 1) := by decide +kernel
theorem dX7_depth_8 : decode cX7_depth 8 = .ok (.iadd, 1) := by decide +kernel
theorem dX7_depth_9 : decode cX7_depth 9 = .ok (.iaload, 1) := by decide +kernel
theorem dX7_depth_10 : decode cX7_depth 10 = .ok (.istore_n 3, 1) := by decide +kernel
theorem dX7_depth_11 : decode cX7_depth 11 = .ok (.aload_n 0, 1) := by decide +kernel
theorem dX7_depth_12 : decode cX7_depth 12 = .ok (.getfield 13, 3) := by decide +kernel
theorem dX7_depth_15 : decode cX7_depth 15 = .ok (.iconst 5, 1) := by decide +kernel
theorem dX7_depth_16 : decode cX7_depth 16 = .ok (.iload_n 1, 1) := by decide +kernel
theorem dX7_depth_17 : decode cX7_depth 17 = .ok (.imul, 1) := by decide +kernel
theorem dX7_depth_18 : decode cX7_depth 18 = .ok (.iconst 2, 1) := by decide +kernel
theorem dX7_depth_19 : decode cX7_depth 19 = .ok (.iadd, 1) := by decide +kernel
theorem dX7_depth_20 : decode cX7_depth 20 = .ok (.iaload, 1) := by decide +kernel
theorem dX7_depth_21 : decode cX7_depth 21 = .ok (.istore 4, 2) := by decide +kernel
theorem dX7_depth_23 : decode cX7_depth 23 = .ok (.iload_n 2, 1) := by decide +kernel
theorem dX7_depth_24 : decode cX7_depth 24 = .ok (.aload_n 0, 1) := by decide +kernel
theorem dX7_depth_25 : decode cX7_depth 25 = .ok (.iload_n 1, 1) := by decide +kernel
theorem dX7_depth_26 : decode cX7_depth 26 = .ok (.invokevirtual 120, 3) := by decide +kernel
theorem dX7_depth_29 : decode cX7_depth 29 = .ok (.irem, 1) := by decide +kernel
theorem dX7_depth_30 : decode cX7_depth 30 = .ok (.istore 5, 2) := by decide +kernel
theorem dX7_depth_32 : decode cX7_depth 32 = .ok (.aload_n 0, 1) := by decide +kernel
theorem dX7_depth_33 : decode cX7_depth 33 = .ok (.getfield 13, 3) := by decide +kernel
theorem dX7_depth_36 : decode cX7_depth 36 = .ok (.iconst 5, 1) := by decide +kernel
theorem dX7_depth_37 : decode cX7_depth 37 = .ok (.iload_n 1, 1) := by decide +kernel
theorem dX7_depth_38 : decode cX7_depth 38 = .ok (.imul, 1) := by decide +kernel
theorem dX7_depth_39 : decode cX7_depth 39 = .ok (.iaload, 1) := by decide +kernel
theorem dX7_depth_40 : decode cX7_depth 40 = .ok (.ifCond .ne 14, 3) := by decide +kernel
theorem dX7_depth_43 : decode cX7_depth 43 = .ok (.iload 4, 2) := by decide +kernel
theorem dX7_depth_45 : decode cX7_depth 45 = .ok (.iload 5, 2) := by decide +kernel
theorem dX7_depth_47 : decode cX7_depth 47 = .ok (.imul, 1) := by decide +kernel
theorem dX7_depth_48 : decode cX7_depth 48 = .ok (.iload 5, 2) := by decide +kernel
theorem dX7_depth_50 : decode cX7_depth 50 = .ok (.imul, 1) := by decide +kernel
theorem dX7_depth_51 : decode cX7_depth 51 = .ok (.iload_n 3, 1) := by decide +kernel
theorem dX7_depth_52 : decode cX7_depth 52 = .ok (.irem, 1) := by decide +kernel
theorem dX7_depth_53 : decode cX7_depth 53 = .ok (.ireturn, 1) := by decide +kernel
theorem dX7_depth_54 : decode cX7_depth 54 = .ok (.aload_n 0, 1) := by decide +kernel
theorem dX7_depth_55 : decode cX7_depth 55 = .ok (.getfield 13, 3) := by decide +kernel
theorem dX7_depth_58 : decode cX7_depth 58 = .ok (.iconst 5, 1) := by decide +kernel
theorem dX7_depth_59 : decode cX7_depth 59 = .ok (.iload_n 1, 1) := by decide +kernel
theorem dX7_depth_60 : decode cX7_depth 60 = .ok (.imul, 1) := by decide +kernel
theorem dX7_depth_61 : decode cX7_depth 61 = .ok (.iaload, 1) := by decide +kernel
theorem dX7_depth_62 : decode cX7_depth 62 = .ok (.iconst 2, 1) := by decide +kernel
theorem dX7_depth_63 : decode cX7_depth 63 = .ok (.if_icmp .ne 20, 3) := by decide +kernel
theorem dX7_depth_66 : decode cX7_depth 66 = .ok (.iload 5, 2) := by decide +kernel
theorem dX7_depth_68 : decode cX7_depth 68 = .ok (.iload_n 3, 1) := by decide +kernel
theorem dX7_depth_69 : decode cX7_depth 69 = .ok (.invokestatic 53, 3) := by decide +kernel
theorem dX7_depth_72 : decode cX7_depth 72 = .ok (.iconst 1, 1) := by decide +kernel
theorem dX7_depth_73 : decode cX7_depth 73 = .ok (.if_icmp .ne 8, 3) := by decide +kernel
theorem dX7_depth_76 : decode cX7_depth 76 = .ok (.iload 4, 2) := by decide +kernel
theorem dX7_depth_78 : decode cX7_depth 78 = .ok (.goto 4, 3) := by decide +kernel
theorem dX7_depth_81 : decode cX7_depth 81 = .ok (.iconst 0, 1) := by decide +kernel
theorem dX7_depth_82 : decode cX7_depth 82 = .ok (.ireturn, 1) := by decide +kernel
theorem dX7_depth_83 : decode cX7_depth 83 = .ok (.iload 4, 2) := by decide +kernel
theorem dX7_depth_85 : decode cX7_depth 85 = .ok (.istore 6, 2) := by decide +kernel
theorem dX7_depth_87 : decode cX7_depth 87 = .ok (.iconst 0, 1) := by decide +kernel
theorem dX7_depth_88 : decode cX7_depth 88 = .ok (.istore 7, 2) := by decide +kernel
theorem dX7_depth_90 : decode cX7_depth 90 = .ok (.iload 7, 2) := by decide +kernel
theorem dX7_depth_92 : decode cX7_depth 92 = .ok (.iload 5, 2) := by decide +kernel
theorem dX7_depth_94 : decode cX7_depth 94 = .ok (.if_icmp .ge 18, 3) := by decide +kernel
theorem dX7_depth_97 : decode cX7_depth 97 = .ok (.iload 6, 2) := by decide +kernel
theorem dX7_depth_99 : decode cX7_depth 99 = .ok (.iload 4, 2) := by decide +kernel
theorem dX7_depth_101 : decode cX7_depth 101 = .ok (.imul, 1) := by decide +kernel
theorem dX7_depth_102 : decode cX7_depth 102 = .ok (.iload_n 3, 1) := by decide +kernel
theorem dX7_depth_103 : decode cX7_depth 103 = .ok (.irem, 1) := by decide +kernel
theorem dX7_depth_104 : decode cX7_depth 104 = .ok (.istore 6, 2) := by decide +kernel
theorem dX7_depth_106 : decode cX7_depth 106 = .ok (.iinc 7 1, 3) := by decide +kernel
theorem dX7_depth_109 : decode cX7_depth 109 = .ok (.goto (-19), 3) := by decide +kernel
theorem dX7_depth_112 : decode cX7_depth 112 = .ok (.iload 6, 2) := by decide +kernel
theorem dX7_depth_114 : decode cX7_depth 114 = .ok (.ireturn, 1) := by decide +kernel
theorem dX7_wellOf_0 : decode cX7_wellOf 0 = .ok (.aload_n 0, 1) := by decide +kernel
theorem dX7_wellOf_1 : decode cX7_wellOf 1 = .ok (.iload_n 1, 1) := by decide +kernel
theorem dX7_wellOf_2 : decode cX7_wellOf 2 = .ok (.iload_n 2, 1) := by decide +kernel
theorem dX7_wellOf_3 : decode cX7_wellOf 3 = .ok (.aload_n 0, 1) := by decide +kernel
theorem dX7_wellOf_4 : decode cX7_wellOf 4 = .ok (.getfield 13, 3) := by decide +kernel
theorem dX7_wellOf_7 : decode cX7_wellOf 7 = .ok (.iconst 5, 1) := by decide +kernel
theorem dX7_wellOf_8 : decode cX7_wellOf 8 = .ok (.iload_n 1, 1) := by decide +kernel
theorem dX7_wellOf_9 : decode cX7_wellOf 9 = .ok (.imul, 1) := by decide +kernel
theorem dX7_wellOf_10 : decode cX7_wellOf 10 = .ok (.iconst 3, 1) := by decide +kernel
theorem dX7_wellOf_11 : decode cX7_wellOf 11 = .ok (.iadd, 1) := by decide +kernel
theorem dX7_wellOf_12 : decode cX7_wellOf 12 = .ok (.iaload, 1) := by decide +kernel
theorem dX7_wellOf_13 : decode cX7_wellOf 13 = .ok (.iadd, 1) := by decide +kernel
theorem dX7_wellOf_14 : decode cX7_wellOf 14 = .ok (.invokevirtual 123, 3) := by decide +kernel
theorem dX7_wellOf_17 : decode cX7_wellOf 17 = .ok (.ireturn, 1) := by decide +kernel
theorem dX7_well_0 : decode cX7_well 0 = .ok (.aload_n 0, 1) := by decide +kernel
theorem dX7_well_1 : decode cX7_well 1 = .ok (.iload_n 1, 1) := by decide +kernel
theorem dX7_well_2 : decode cX7_well 2 = .ok (.invokevirtual 106, 3) := by decide +kernel
theorem dX7_well_5 : decode cX7_well 5 = .ok (.ifCond .eq 34, 3) := by decide +kernel
theorem dX7_well_8 : decode cX7_well 8 = .ok (.iload_n 2, 1) := by decide +kernel
theorem dX7_well_9 : decode cX7_well 9 = .ok (.i2l, 1) := by decide +kernel
theorem dX7_well_10 : decode cX7_well 10 = .ok (.lconst 0, 1) := by decide +kernel
theorem dX7_well_11 : decode cX7_well 11 = .ok (.aload_n 0, 1) := by decide +kernel
theorem dX7_well_12 : decode cX7_well 12 = .ok (.getfield 13, 3) := by decide +kernel
theorem dX7_well_15 : decode cX7_well 15 = .ok (.iconst 5, 1) := by decide +kernel
theorem dX7_well_16 : decode cX7_well 16 = .ok (.iload_n 1, 1) := by decide +kernel
theorem dX7_well_17 : decode cX7_well 17 = .ok (.imul, 1) := by decide +kernel
theorem dX7_well_18 : decode cX7_well 18 = .ok (.iconst 4, 1) := by decide +kernel
theorem dX7_well_19 : decode cX7_well 19 = .ok (.iadd, 1) := by decide +kernel
theorem dX7_well_20 : decode cX7_well 20 = .ok (.iaload, 1) := by decide +kernel
theorem dX7_well_21 : decode cX7_well 21 = .ok (.iconst 1, 1) := by decide +kernel
theorem dX7_well_22 : decode cX7_well 22 = .ok (.isub, 1) := by decide +kernel
theorem dX7_well_23 : decode cX7_well 23 = .ok (.i2l, 1) := by decide +kernel
theorem dX7_well_24 : decode cX7_well 24 = .ok (.invokestatic 43, 3) := by decide +kernel
theorem dX7_well_27 : decode cX7_well 27 = .ok (.ifCond .eq 12, 3) := by decide +kernel
theorem dX7_well_30 : decode cX7_well 30 = .ok (.aload_n 0, 1) := by decide +kernel
theorem dX7_well_31 : decode cX7_well 31 = .ok (.iload_n 1, 1) := by decide +kernel
theorem dX7_well_32 : decode cX7_well 32 = .ok (.iload_n 2, 1) := by decide +kernel
theorem dX7_well_33 : decode cX7_well 33 = .ok (.invokevirtual 126, 3) := by decide +kernel
theorem dX7_well_36 : decode cX7_well 36 = .ok (.goto 4, 3) := by decide +kernel
theorem dX7_well_39 : decode cX7_well 39 = .ok (.iconst (-1), 1) := by decide +kernel
theorem dX7_well_40 : decode cX7_well 40 = .ok (.ireturn, 1) := by decide +kernel
theorem dX7_countOf_0 : decode cX7_countOf 0 = .ok (.aload_n 0, 1) := by decide +kernel
theorem dX7_countOf_1 : decode cX7_countOf 1 = .ok (.getfield 13, 3) := by decide +kernel
theorem dX7_countOf_4 : decode cX7_countOf 4 = .ok (.iconst 5, 1) := by decide +kernel
theorem dX7_countOf_5 : decode cX7_countOf 5 = .ok (.iload_n 1, 1) := by decide +kernel
theorem dX7_countOf_6 : decode cX7_countOf 6 = .ok (.imul, 1) := by decide +kernel
theorem dX7_countOf_7 : decode cX7_countOf 7 = .ok (.iconst 1, 1) := by decide +kernel
theorem dX7_countOf_8 : decode cX7_countOf 8 = .ok (.iadd, 1) := by decide +kernel
theorem dX7_countOf_9 : decode cX7_countOf 9 = .ok (.iaload, 1) := by decide +kernel
theorem dX7_countOf_10 : decode cX7_countOf 10 = .ok (.istore 4, 2) := by decide +kernel
theorem dX7_countOf_12 : decode cX7_countOf 12 = .ok (.iconst 0, 1) := by decide +kernel
theorem dX7_countOf_13 : decode cX7_countOf 13 = .ok (.istore 5, 2) := by decide +kernel
theorem dX7_countOf_15 : decode cX7_countOf 15 = .ok (.iconst 0, 1) := by decide +kernel
theorem dX7_countOf_16 : decode cX7_countOf 16 = .ok (.istore 6, 2) := by decide +kernel
theorem dX7_countOf_18 : decode cX7_countOf 18 = .ok (.iload 6, 2) := by decide +kernel
theorem dX7_countOf_20 : decode cX7_countOf 20 = .ok (.aload_n 0, 1) := by decide +kernel
theorem dX7_countOf_21 : decode cX7_countOf 21 = .ok (.iload_n 1, 1) := by decide +kernel
theorem dX7_countOf_22 : decode cX7_countOf 22 = .ok (.invokevirtual 120, 3) := by decide +kernel
theorem dX7_countOf_25 : decode cX7_countOf 25 = .ok (.if_icmp .ge 60, 3) := by decide +kernel
theorem dX7_countOf_28 : decode cX7_countOf 28 = .ok (.aload_n 0, 1) := by decide +kernel
theorem dX7_countOf_29 : decode cX7_countOf 29 = .ok (.iload_n 1, 1) := by decide +kernel
theorem dX7_countOf_30 : decode cX7_countOf 30 = .ok (.iload 6, 2) := by decide +kernel
theorem dX7_countOf_32 : decode cX7_countOf 32 = .ok (.iload_n 2, 1) := by decide +kernel
theorem dX7_countOf_33 : decode cX7_countOf 33 = .ok (.iadd, 1) := by decide +kernel
theorem dX7_countOf_34 : decode cX7_countOf 34 = .ok (.invokevirtual 123, 3) := by decide +kernel
theorem dX7_countOf_37 : decode cX7_countOf 37 = .ok (.aload_n 0, 1) := by decide +kernel
theorem dX7_countOf_38 : decode cX7_countOf 38 = .ok (.iload_n 1, 1) := by decide +kernel
theorem dX7_countOf_39 : decode cX7_countOf 39 = .ok (.iload 6, 2) := by decide +kernel
theorem dX7_countOf_41 : decode cX7_countOf 41 = .ok (.invokevirtual 123, 3) := by decide +kernel
theorem dX7_countOf_44 : decode cX7_countOf 44 = .ok (.isub, 1) := by decide +kernel
theorem dX7_countOf_45 : decode cX7_countOf 45 = .ok (.iload 4, 2) := by decide +kernel
theorem dX7_countOf_47 : decode cX7_countOf 47 = .ok (.irem, 1) := by decide +kernel
theorem dX7_countOf_48 : decode cX7_countOf 48 = .ok (.istore 7, 2) := by decide +kernel
theorem dX7_countOf_50 : decode cX7_countOf 50 = .ok (.iload 5, 2) := by decide +kernel
theorem dX7_countOf_52 : decode cX7_countOf 52 = .ok (.iload 7, 2) := by decide +kernel
theorem dX7_countOf_54 : decode cX7_countOf 54 = .ok (.ifCond .ge 11, 3) := by decide +kernel
theorem dX7_countOf_57 : decode cX7_countOf 57 = .ok (.iload 7, 2) := by decide +kernel
theorem dX7_countOf_59 : decode cX7_countOf 59 = .ok (.iload 4, 2) := by decide +kernel
theorem dX7_countOf_61 : decode cX7_countOf 61 = .ok (.iadd, 1) := by decide +kernel
theorem dX7_countOf_62 : decode cX7_countOf 62 = .ok (.goto 5, 3) := by decide +kernel
theorem dX7_countOf_65 : decode cX7_countOf 65 = .ok (.iload 7, 2) := by decide +kernel
theorem dX7_countOf_67 : decode cX7_countOf 67 = .ok (.iload_n 3, 1) := by decide +kernel
theorem dX7_countOf_68 : decode cX7_countOf 68 = .ok (.if_icmp .ne 7, 3) := by decide +kernel
theorem dX7_countOf_71 : decode cX7_countOf 71 = .ok (.iconst 1, 1) := by decide +kernel
theorem dX7_countOf_72 : decode cX7_countOf 72 = .ok (.goto 4, 3) := by decide +kernel
theorem dX7_countOf_75 : decode cX7_countOf 75 = .ok (.iconst 0, 1) := by decide +kernel
theorem dX7_countOf_76 : decode cX7_countOf 76 = .ok (.iadd, 1) := by decide +kernel
theorem dX7_countOf_77 : decode cX7_countOf 77 = .ok (.istore 5, 2) := by decide +kernel
theorem dX7_countOf_79 : decode cX7_countOf 79 = .ok (.iinc 6 1, 3) := by decide +kernel
theorem dX7_countOf_82 : decode cX7_countOf 82 = .ok (.goto (-64), 3) := by decide +kernel
theorem dX7_countOf_85 : decode cX7_countOf 85 = .ok (.iload 5, 2) := by decide +kernel
theorem dX7_countOf_87 : decode cX7_countOf 87 = .ok (.ireturn, 1) := by decide +kernel
theorem dX7_counts_0 : decode cX7_counts 0 = .ok (.aload_n 0, 1) := by decide +kernel
theorem dX7_counts_1 : decode cX7_counts 1 = .ok (.iload_n 1, 1) := by decide +kernel
theorem dX7_counts_2 : decode cX7_counts 2 = .ok (.invokevirtual 106, 3) := by decide +kernel
theorem dX7_counts_5 : decode cX7_counts 5 = .ok (.ifCond .eq 52, 3) := by decide +kernel
theorem dX7_counts_8 : decode cX7_counts 8 = .ok (.iload_n 2, 1) := by decide +kernel
theorem dX7_counts_9 : decode cX7_counts 9 = .ok (.i2l, 1) := by decide +kernel
theorem dX7_counts_10 : decode cX7_counts 10 = .ok (.lconst 0, 1) := by decide +kernel
theorem dX7_counts_11 : decode cX7_counts 11 = .ok (.aload_n 0, 1) := by decide +kernel
theorem dX7_counts_12 : decode cX7_counts 12 = .ok (.iload_n 1, 1) := by decide +kernel
theorem dX7_counts_13 : decode cX7_counts 13 = .ok (.invokevirtual 120, 3) := by decide +kernel
theorem dX7_counts_16 : decode cX7_counts 16 = .ok (.iconst 1, 1) := by decide +kernel
theorem dX7_counts_17 : decode cX7_counts 17 = .ok (.isub, 1) := by decide +kernel
theorem dX7_counts_18 : decode cX7_counts 18 = .ok (.i2l, 1) := by decide +kernel
theorem dX7_counts_19 : decode cX7_counts 19 = .ok (.invokestatic 43, 3) := by decide +kernel
theorem dX7_counts_22 : decode cX7_counts 22 = .ok (.ifCond .eq 35, 3) := by decide +kernel
theorem dX7_counts_25 : decode cX7_counts 25 = .ok (.iload_n 3, 1) := by decide +kernel
theorem dX7_counts_26 : decode cX7_counts 26 = .ok (.i2l, 1) := by decide +kernel
theorem dX7_counts_27 : decode cX7_counts 27 = .ok (.lconst 0, 1) := by decide +kernel
theorem dX7_counts_28 : decode cX7_counts 28 = .ok (.aload_n 0, 1) := by decide +kernel
theorem dX7_counts_29 : decode cX7_counts 29 = .ok (.getfield 13, 3) := by decide +kernel
theorem dX7_counts_32 : decode cX7_counts 32 = .ok (.iconst 5, 1) := by decide +kernel
theorem dX7_counts_33 : decode cX7_counts 33 = .ok (.iload_n 1, 1) := by decide +kernel
theorem dX7_counts_34 : decode cX7_counts 34 = .ok (.imul, 1) := by decide +kernel
theorem dX7_counts_35 : decode cX7_counts 35 = .ok (.iconst 1, 1) := by decide +kernel
theorem dX7_counts_36 : decode cX7_counts 36 = .ok (.iadd, 1) := by decide +kernel
theorem dX7_counts_37 : decode cX7_counts 37 = .ok (.iaload, 1) := by decide +kernel
theorem dX7_counts_38 : decode cX7_counts 38 = .ok (.iconst 1, 1) := by decide +kernel
theorem dX7_counts_39 : decode cX7_counts 39 = .ok (.isub, 1) := by decide +kernel
theorem dX7_counts_40 : decode cX7_counts 40 = .ok (.i2l, 1) := by decide +kernel
theorem dX7_counts_41 : decode cX7_counts 41 = .ok (.invokestatic 43, 3) := by decide +kernel
theorem dX7_counts_44 : decode cX7_counts 44 = .ok (.ifCond .eq 13, 3) := by decide +kernel
theorem dX7_counts_47 : decode cX7_counts 47 = .ok (.aload_n 0, 1) := by decide +kernel
theorem dX7_counts_48 : decode cX7_counts 48 = .ok (.iload_n 1, 1) := by decide +kernel
theorem dX7_counts_49 : decode cX7_counts 49 = .ok (.iload_n 2, 1) := by decide +kernel
theorem dX7_counts_50 : decode cX7_counts 50 = .ok (.iload_n 3, 1) := by decide +kernel
theorem dX7_counts_51 : decode cX7_counts 51 = .ok (.invokevirtual 129, 3) := by decide +kernel
theorem dX7_counts_54 : decode cX7_counts 54 = .ok (.goto 4, 3) := by decide +kernel
theorem dX7_counts_57 : decode cX7_counts 57 = .ok (.iconst (-1), 1) := by decide +kernel
theorem dX7_counts_58 : decode cX7_counts 58 = .ok (.ireturn, 1) := by decide +kernel
theorem dX7_even_0 : decode cX7_even 0 = .ok (.sipush 1000, 3) := by decide +kernel
theorem dX7_even_3 : decode cX7_even 3 = .ok (.istore_n 2, 1) := by decide +kernel
theorem dX7_even_4 : decode cX7_even 4 = .ok (.iconst 0, 1) := by decide +kernel
theorem dX7_even_5 : decode cX7_even 5 = .ok (.istore_n 3, 1) := by decide +kernel
theorem dX7_even_6 : decode cX7_even 6 = .ok (.iconst 1, 1) := by decide +kernel
theorem dX7_even_7 : decode cX7_even 7 = .ok (.istore 4, 2) := by decide +kernel
theorem dX7_even_9 : decode cX7_even 9 = .ok (.iload 4, 2) := by decide +kernel
theorem dX7_even_11 : decode cX7_even 11 = .ok (.aload_n 0, 1) := by decide +kernel
theorem dX7_even_12 : decode cX7_even 12 = .ok (.iload_n 1, 1) := by decide +kernel
theorem dX7_even_13 : decode cX7_even 13 = .ok (.invokevirtual 120, 3) := by decide +kernel
theorem dX7_even_16 : decode cX7_even 16 = .ok (.if_icmp .ge 70, 3) := by decide +kernel
theorem dX7_even_19 : decode cX7_even 19 = .ok (.iconst 0, 1) := by decide +kernel
theorem dX7_even_20 : decode cX7_even 20 = .ok (.istore 5, 2) := by decide +kernel
theorem dX7_even_22 : decode cX7_even 22 = .ok (.iload 5, 2) := by decide +kernel
theorem dX7_even_24 : decode cX7_even 24 = .ok (.aload_n 0, 1) := by decide +kernel
theorem dX7_even_25 : decode cX7_even 25 = .ok (.getfield 13, 3) := by decide +kernel
theorem dX7_even_28 : decode cX7_even 28 = .ok (.iconst 5, 1) := by decide +kernel
theorem dX7_even_29 : decode cX7_even 29 = .ok (.iload_n 1, 1) := by decide +kernel
theorem dX7_even_30 : decode cX7_even 30 = .ok (.imul, 1) := by decide +kernel
theorem dX7_even_31 : decode cX7_even 31 = .ok (.iconst 1, 1) := by decide +kernel
theorem dX7_even_32 : decode cX7_even 32 = .ok (.iadd, 1) := by decide +kernel
theorem dX7_even_33 : decode cX7_even 33 = .ok (.iaload, 1) := by decide +kernel
theorem dX7_even_34 : decode cX7_even 34 = .ok (.if_icmp .ge 46, 3) := by decide +kernel
theorem dX7_even_37 : decode cX7_even 37 = .ok (.aload_n 0, 1) := by decide +kernel
theorem dX7_even_38 : decode cX7_even 38 = .ok (.iload_n 1, 1) := by decide +kernel
theorem dX7_even_39 : decode cX7_even 39 = .ok (.iload 4, 2) := by decide +kernel
theorem dX7_even_41 : decode cX7_even 41 = .ok (.iload 5, 2) := by decide +kernel
theorem dX7_even_43 : decode cX7_even 43 = .ok (.invokevirtual 129, 3) := by decide +kernel
theorem dX7_even_46 : decode cX7_even 46 = .ok (.istore 6, 2) := by decide +kernel
theorem dX7_even_48 : decode cX7_even 48 = .ok (.iload 6, 2) := by decide +kernel
theorem dX7_even_50 : decode cX7_even 50 = .ok (.iload_n 2, 1) := by decide +kernel
theorem dX7_even_51 : decode cX7_even 51 = .ok (.if_icmp .ge 8, 3) := by decide +kernel
theorem dX7_even_54 : decode cX7_even 54 = .ok (.iload 6, 2) := by decide +kernel
theorem dX7_even_56 : decode cX7_even 56 = .ok (.goto 4, 3) := by decide +kernel
theorem dX7_even_59 : decode cX7_even 59 = .ok (.iload_n 2, 1) := by decide +kernel
theorem dX7_even_60 : decode cX7_even 60 = .ok (.istore_n 2, 1) := by decide +kernel
theorem dX7_even_61 : decode cX7_even 61 = .ok (.iload 6, 2) := by decide +kernel
theorem dX7_even_63 : decode cX7_even 63 = .ok (.iload_n 3, 1) := by decide +kernel
theorem dX7_even_64 : decode cX7_even 64 = .ok (.if_icmp .le 8, 3) := by decide +kernel
theorem dX7_even_67 : decode cX7_even 67 = .ok (.iload 6, 2) := by decide +kernel
theorem dX7_even_69 : decode cX7_even 69 = .ok (.goto 4, 3) := by decide +kernel
theorem dX7_even_72 : decode cX7_even 72 = .ok (.iload_n 3, 1) := by decide +kernel
theorem dX7_even_73 : decode cX7_even 73 = .ok (.istore_n 3, 1) := by decide +kernel
theorem dX7_even_74 : decode cX7_even 74 = .ok (.iinc 5 1, 3) := by decide +kernel
theorem dX7_even_77 : decode cX7_even 77 = .ok (.goto (-55), 3) := by decide +kernel
theorem dX7_even_80 : decode cX7_even 80 = .ok (.iinc 4 1, 3) := by decide +kernel
theorem dX7_even_83 : decode cX7_even 83 = .ok (.goto (-74), 3) := by decide +kernel
theorem dX7_even_86 : decode cX7_even 86 = .ok (.iload_n 3, 1) := by decide +kernel
theorem dX7_even_87 : decode cX7_even 87 = .ok (.iload_n 2, 1) := by decide +kernel
theorem dX7_even_88 : decode cX7_even 88 = .ok (.isub, 1) := by decide +kernel
theorem dX7_even_89 : decode cX7_even 89 = .ok (.ireturn, 1) := by decide +kernel
