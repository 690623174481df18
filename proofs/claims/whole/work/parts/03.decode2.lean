theorem dX4_keepItem_0 : decode cX4_keepItem 0 = .ok (.iload_n 1, 1) := by decide +kernel
theorem dX4_keepItem_1 : decode cX4_keepItem 1 = .ok (.bipush 117, 2) := by decide +kernel
theorem dX4_keepItem_3 : decode cX4_keepItem 3 = .ok (.if_icmp .ne 8, 3) := by decide +kernel
theorem dX4_keepItem_6 : decode cX4_keepItem 6 = .ok (.aload_n 0, 1) := by decide +kernel
theorem dX4_keepItem_7 : decode cX4_keepItem 7 = .ok (.invokevirtual 81, 3) := by decide +kernel
theorem dX4_keepItem_10 : decode cX4_keepItem 10 = .ok (.ireturn, 1) := by decide +kernel
theorem dX4_keepItem_11 : decode cX4_keepItem 11 = .ok (.iload_n 1, 1) := by decide +kernel
theorem dX4_keepItem_12 : decode cX4_keepItem 12 = .ok (.bipush 98, 2) := by decide +kernel
theorem dX4_keepItem_14 : decode cX4_keepItem 14 = .ok (.if_icmp .ne 8, 3) := by decide +kernel
theorem dX4_keepItem_17 : decode cX4_keepItem 17 = .ok (.aload_n 0, 1) := by decide +kernel
theorem dX4_keepItem_18 : decode cX4_keepItem 18 = .ok (.invokevirtual 85, 3) := by decide +kernel
theorem dX4_keepItem_21 : decode cX4_keepItem 21 = .ok (.ireturn, 1) := by decide +kernel
theorem dX4_keepItem_22 : decode cX4_keepItem 22 = .ok (.iload_n 1, 1) := by decide +kernel
theorem dX4_keepItem_23 : decode cX4_keepItem 23 = .ok (.bipush 113, 2) := by decide +kernel
theorem dX4_keepItem_25 : decode cX4_keepItem 25 = .ok (.if_icmp .ne 7, 3) := by decide +kernel
theorem dX4_keepItem_28 : decode cX4_keepItem 28 = .ok (.iconst 0, 1) := by decide +kernel
theorem dX4_keepItem_29 : decode cX4_keepItem 29 = .ok (.goto 14, 3) := by decide +kernel
theorem dX4_keepItem_32 : decode cX4_keepItem 32 = .ok (.iload_n 1, 1) := by decide +kernel
theorem dX4_keepItem_33 : decode cX4_keepItem 33 = .ok (.bipush 114, 2) := by decide +kernel
theorem dX4_keepItem_35 : decode cX4_keepItem 35 = .ok (.if_icmp .ne 7, 3) := by decide +kernel
theorem dX4_keepItem_38 : decode cX4_keepItem 38 = .ok (.iconst 1, 1) := by decide +kernel
theorem dX4_keepItem_39 : decode cX4_keepItem 39 = .ok (.goto 4, 3) := by decide +kernel
theorem dX4_keepItem_42 : decode cX4_keepItem 42 = .ok (.iconst 2, 1) := by decide +kernel
theorem dX4_keepItem_43 : decode cX4_keepItem 43 = .ok (.istore_n 2, 1) := by decide +kernel
theorem dX4_keepItem_44 : decode cX4_keepItem 44 = .ok (.aload_n 0, 1) := by decide +kernel
theorem dX4_keepItem_45 : decode cX4_keepItem 45 = .ok (.getfield 17, 3) := by decide +kernel
theorem dX4_keepItem_48 : decode cX4_keepItem 48 = .ok (.iconst 0, 1) := by decide +kernel
theorem dX4_keepItem_49 : decode cX4_keepItem 49 = .ok (.iaload, 1) := by decide +kernel
theorem dX4_keepItem_50 : decode cX4_keepItem 50 = .ok (.istore_n 3, 1) := by decide +kernel
theorem dX4_keepItem_51 : decode cX4_keepItem 51 = .ok (.aload_n 0, 1) := by decide +kernel
theorem dX4_keepItem_52 : decode cX4_keepItem 52 = .ok (.getfield 17, 3) := by decide +kernel
theorem dX4_keepItem_55 : decode cX4_keepItem 55 = .ok (.iconst 1, 1) := by decide +kernel
theorem dX4_keepItem_56 : decode cX4_keepItem 56 = .ok (.iaload, 1) := by decide +kernel
theorem dX4_keepItem_57 : decode cX4_keepItem 57 = .ok (.istore 4, 2) := by decide +kernel
theorem dX4_keepItem_59 : decode cX4_keepItem 59 = .ok (.aload_n 0, 1) := by decide +kernel
theorem dX4_keepItem_60 : decode cX4_keepItem 60 = .ok (.getfield 17, 3) := by decide +kernel
theorem dX4_keepItem_63 : decode cX4_keepItem 63 = .ok (.iconst 2, 1) := by decide +kernel
theorem dX4_keepItem_64 : decode cX4_keepItem 64 = .ok (.iaload, 1) := by decide +kernel
theorem dX4_keepItem_65 : decode cX4_keepItem 65 = .ok (.istore 5, 2) := by decide +kernel
theorem dX4_keepItem_67 : decode cX4_keepItem 67 = .ok (.aload_n 0, 1) := by decide +kernel
theorem dX4_keepItem_68 : decode cX4_keepItem 68 = .ok (.getfield 17, 3) := by decide +kernel
theorem dX4_keepItem_71 : decode cX4_keepItem 71 = .ok (.iconst 3, 1) := by decide +kernel
theorem dX4_keepItem_72 : decode cX4_keepItem 72 = .ok (.iaload, 1) := by decide +kernel
theorem dX4_keepItem_73 : decode cX4_keepItem 73 = .ok (.istore 6, 2) := by decide +kernel
theorem dX4_keepItem_75 : decode cX4_keepItem 75 = .ok (.aload_n 0, 1) := by decide +kernel
theorem dX4_keepItem_76 : decode cX4_keepItem 76 = .ok (.getfield 29, 3) := by decide +kernel
theorem dX4_keepItem_79 : decode cX4_keepItem 79 = .ok (.ifCond .lt 22, 3) := by decide +kernel
theorem dX4_keepItem_82 : decode cX4_keepItem 82 = .ok (.aload_n 0, 1) := by decide +kernel
theorem dX4_keepItem_83 : decode cX4_keepItem 83 = .ok (.getfield 29, 3) := by decide +kernel
theorem dX4_keepItem_86 : decode cX4_keepItem 86 = .ok (.aload_n 0, 1) := by decide +kernel
theorem dX4_keepItem_87 : decode cX4_keepItem 87 = .ok (.getfield 11, 3) := by decide +kernel
theorem dX4_keepItem_90 : decode cX4_keepItem 90 = .ok (.arraylength, 1) := by decide +kernel
theorem dX4_keepItem_91 : decode cX4_keepItem 91 = .ok (.if_icmp .ge 10, 3) := by decide +kernel
theorem dX4_keepItem_94 : decode cX4_keepItem 94 = .ok (.iload_n 3, 1) := by decide +kernel
theorem dX4_keepItem_95 : decode cX4_keepItem 95 = .ok (.invokestatic 88, 3) := by decide +kernel
theorem dX4_keepItem_98 : decode cX4_keepItem 98 = .ok (.ifCond .ne 5, 3) := by decide +kernel
theorem dX4_keepItem_101 : decode cX4_keepItem 101 = .ok (.iconst 0, 1) := by decide +kernel
theorem dX4_keepItem_102 : decode cX4_keepItem 102 = .ok (.ireturn, 1) := by decide +kernel
theorem dX4_keepItem_103 : decode cX4_keepItem 103 = .ok (.iload_n 2, 1) := by decide +kernel
theorem dX4_keepItem_104 : decode cX4_keepItem 104 = .ok (.iload_n 3, 1) := by decide +kernel
theorem dX4_keepItem_105 : decode cX4_keepItem 105 = .ok (.iload 4, 2) := by decide +kernel
theorem dX4_keepItem_107 : decode cX4_keepItem 107 = .ok (.invokestatic 93, 3) := by decide +kernel
theorem dX4_keepItem_110 : decode cX4_keepItem 110 = .ok (.ifCond .ne 5, 3) := by decide +kernel
theorem dX4_keepItem_113 : decode cX4_keepItem 113 = .ok (.iconst 0, 1) := by decide +kernel
theorem dX4_keepItem_114 : decode cX4_keepItem 114 = .ok (.ireturn, 1) := by decide +kernel
theorem dX4_keepItem_115 : decode cX4_keepItem 115 = .ok (.iload_n 3, 1) := by decide +kernel
theorem dX4_keepItem_116 : decode cX4_keepItem 116 = .ok (.iload 5, 2) := by decide +kernel
theorem dX4_keepItem_118 : decode cX4_keepItem 118 = .ok (.invokestatic 97, 3) := by decide +kernel
theorem dX4_keepItem_121 : decode cX4_keepItem 121 = .ok (.ifCond .eq 11, 3) := by decide +kernel
theorem dX4_keepItem_124 : decode cX4_keepItem 124 = .ok (.iload 6, 2) := by decide +kernel
theorem dX4_keepItem_126 : decode cX4_keepItem 126 = .ok (.invokestatic 101, 3) := by decide +kernel
theorem dX4_keepItem_129 : decode cX4_keepItem 129 = .ok (.ifCond .ne 5, 3) := by decide +kernel
theorem dX4_keepItem_132 : decode cX4_keepItem 132 = .ok (.iconst 0, 1) := by decide +kernel
theorem dX4_keepItem_133 : decode cX4_keepItem 133 = .ok (.ireturn, 1) := by decide +kernel
theorem dX4_keepItem_134 : decode cX4_keepItem 134 = .ok (.aload_n 0, 1) := by decide +kernel
theorem dX4_keepItem_135 : decode cX4_keepItem 135 = .ok (.getfield 11, 3) := by decide +kernel
theorem dX4_keepItem_138 : decode cX4_keepItem 138 = .ok (.aload_n 0, 1) := by decide +kernel
theorem dX4_keepItem_139 : decode cX4_keepItem 139 = .ok (.getfield 29, 3) := by decide +kernel
theorem dX4_keepItem_142 : decode cX4_keepItem 142 = .ok (.new 9, 3) := by decide +kernel
theorem dX4_keepItem_145 : decode cX4_keepItem 145 = .ok (.dup, 1) := by decide +kernel
theorem dX4_keepItem_146 : decode cX4_keepItem 146 = .ok (.iload_n 2, 1) := by decide +kernel
theorem dX4_keepItem_147 : decode cX4_keepItem 147 = .ok (.iload_n 3, 1) := by decide +kernel
theorem dX4_keepItem_148 : decode cX4_keepItem 148 = .ok (.iload 4, 2) := by decide +kernel
theorem dX4_keepItem_150 : decode cX4_keepItem 150 = .ok (.iload 5, 2) := by decide +kernel
theorem dX4_keepItem_152 : decode cX4_keepItem 152 = .ok (.iload 6, 2) := by decide +kernel
theorem dX4_keepItem_154 : decode cX4_keepItem 154 = .ok (.invokespecial 104, 3) := by decide +kernel
theorem dX4_keepItem_157 : decode cX4_keepItem 157 = .ok (.aastore, 1) := by decide +kernel
theorem dX4_keepItem_158 : decode cX4_keepItem 158 = .ok (.aload_n 0, 1) := by decide +kernel
theorem dX4_keepItem_159 : decode cX4_keepItem 159 = .ok (.dup, 1) := by decide +kernel
theorem dX4_keepItem_160 : decode cX4_keepItem 160 = .ok (.getfield 29, 3) := by decide +kernel
theorem dX4_keepItem_163 : decode cX4_keepItem 163 = .ok (.iconst 1, 1) := by decide +kernel
theorem dX4_keepItem_164 : decode cX4_keepItem 164 = .ok (.iadd, 1) := by decide +kernel
theorem dX4_keepItem_165 : decode cX4_keepItem 165 = .ok (.putfield 29, 3) := by decide +kernel
theorem dX4_keepItem_168 : decode cX4_keepItem 168 = .ok (.iconst 1, 1) := by decide +kernel
theorem dX4_keepItem_169 : decode cX4_keepItem 169 = .ok (.ireturn, 1) := by decide +kernel
theorem dX4_keepUnit_0 : decode cX4_keepUnit 0 = .ok (.iconst 0, 1) := by decide +kernel
theorem dX4_keepUnit_1 : decode cX4_keepUnit 1 = .ok (.aload_n 0, 1) := by decide +kernel
theorem dX4_keepUnit_2 : decode cX4_keepUnit 2 = .ok (.getfield 17, 3) := by decide +kernel
theorem dX4_keepUnit_5 : decode cX4_keepUnit 5 = .ok (.iconst 0, 1) := by decide +kernel
theorem dX4_keepUnit_6 : decode cX4_keepUnit 6 = .ok (.iaload, 1) := by decide +kernel
theorem dX4_keepUnit_7 : decode cX4_keepUnit 7 = .ok (.invokestatic 107, 3) := by decide +kernel
theorem dX4_keepUnit_10 : decode cX4_keepUnit 10 = .ok (.ifCond .ne 5, 3) := by decide +kernel
theorem dX4_keepUnit_13 : decode cX4_keepUnit 13 = .ok (.iconst 0, 1) := by decide +kernel
theorem dX4_keepUnit_14 : decode cX4_keepUnit 14 = .ok (.ireturn, 1) := by decide +kernel
theorem dX4_keepUnit_15 : decode cX4_keepUnit 15 = .ok (.aload_n 0, 1) := by decide +kernel
theorem dX4_keepUnit_16 : decode cX4_keepUnit 16 = .ok (.aload_n 0, 1) := by decide +kernel
theorem dX4_keepUnit_17 : decode cX4_keepUnit 17 = .ok (.getfield 17, 3) := by decide +kernel
theorem dX4_keepUnit_20 : decode cX4_keepUnit 20 = .ok (.iconst 0, 1) := by decide +kernel
theorem dX4_keepUnit_21 : decode cX4_keepUnit 21 = .ok (.iaload, 1) := by decide +kernel
theorem dX4_keepUnit_22 : decode cX4_keepUnit 22 = .ok (.putfield 32, 3) := by decide +kernel
theorem dX4_keepUnit_25 : decode cX4_keepUnit 25 = .ok (.iconst 1, 1) := by decide +kernel
theorem dX4_keepUnit_26 : decode cX4_keepUnit 26 = .ok (.ireturn, 1) := by decide +kernel
theorem dX4_keepBoard_0 : decode cX4_keepBoard 0 = .ok (.iconst 1, 1) := by decide +kernel
theorem dX4_keepBoard_1 : decode cX4_keepBoard 1 = .ok (.aload_n 0, 1) := by decide +kernel
theorem dX4_keepBoard_2 : decode cX4_keepBoard 2 = .ok (.getfield 17, 3) := by decide +kernel
theorem dX4_keepBoard_5 : decode cX4_keepBoard 5 = .ok (.iconst 0, 1) := by decide +kernel
theorem dX4_keepBoard_6 : decode cX4_keepBoard 6 = .ok (.iaload, 1) := by decide +kernel
theorem dX4_keepBoard_7 : decode cX4_keepBoard 7 = .ok (.invokestatic 107, 3) := by decide +kernel
theorem dX4_keepBoard_10 : decode cX4_keepBoard 10 = .ok (.ifCond .eq 16, 3) := by decide +kernel
theorem dX4_keepBoard_13 : decode cX4_keepBoard 13 = .ok (.iconst 2, 1) := by decide +kernel
theorem dX4_keepBoard_14 : decode cX4_keepBoard 14 = .ok (.aload_n 0, 1) := by decide +kernel
theorem dX4_keepBoard_15 : decode cX4_keepBoard 15 = .ok (.getfield 17, 3) := by decide +kernel
theorem dX4_keepBoard_18 : decode cX4_keepBoard 18 = .ok (.iconst 1, 1) := by decide +kernel
theorem dX4_keepBoard_19 : decode cX4_keepBoard 19 = .ok (.iaload, 1) := by decide +kernel
theorem dX4_keepBoard_20 : decode cX4_keepBoard 20 = .ok (.invokestatic 107, 3) := by decide +kernel
theorem dX4_keepBoard_23 : decode cX4_keepBoard 23 = .ok (.ifCond .ne 5, 3) := by decide +kernel
theorem dX4_keepBoard_26 : decode cX4_keepBoard 26 = .ok (.iconst 0, 1) := by decide +kernel
theorem dX4_keepBoard_27 : decode cX4_keepBoard 27 = .ok (.ireturn, 1) := by decide +kernel
theorem dX4_keepBoard_28 : decode cX4_keepBoard 28 = .ok (.aload_n 0, 1) := by decide +kernel
theorem dX4_keepBoard_29 : decode cX4_keepBoard 29 = .ok (.aload_n 0, 1) := by decide +kernel
theorem dX4_keepBoard_30 : decode cX4_keepBoard 30 = .ok (.getfield 17, 3) := by decide +kernel
theorem dX4_keepBoard_33 : decode cX4_keepBoard 33 = .ok (.iconst 0, 1) := by decide +kernel
theorem dX4_keepBoard_34 : decode cX4_keepBoard 34 = .ok (.iaload, 1) := by decide +kernel
theorem dX4_keepBoard_35 : decode cX4_keepBoard 35 = .ok (.putfield 35, 3) := by decide +kernel
theorem dX4_keepBoard_38 : decode cX4_keepBoard 38 = .ok (.aload_n 0, 1) := by decide +kernel
theorem dX4_keepBoard_39 : decode cX4_keepBoard 39 = .ok (.aload_n 0, 1) := by decide +kernel
theorem dX4_keepBoard_40 : decode cX4_keepBoard 40 = .ok (.getfield 17, 3) := by decide +kernel
theorem dX4_keepBoard_43 : decode cX4_keepBoard 43 = .ok (.iconst 1, 1) := by decide +kernel
theorem dX4_keepBoard_44 : decode cX4_keepBoard 44 = .ok (.iaload, 1) := by decide +kernel
theorem dX4_keepBoard_45 : decode cX4_keepBoard 45 = .ok (.putfield 38, 3) := by decide +kernel
theorem dX4_keepBoard_48 : decode cX4_keepBoard 48 = .ok (.iconst 1, 1) := by decide +kernel
theorem dX4_keepBoard_49 : decode cX4_keepBoard 49 = .ok (.ireturn, 1) := by decide +kernel
theorem dX5_init_0 : decode cX5_init 0 = .ok (.aload_n 0, 1) := by decide +kernel
theorem dX5_init_1 : decode cX5_init 1 = .ok (.invokespecial 3, 3) := by decide +kernel
theorem dX5_init_4 : decode cX5_init 4 = .ok (.aload_n 0, 1) := by decide +kernel
theorem dX5_init_5 : decode cX5_init 5 = .ok (.sipush 160, 3) := by decide +kernel
theorem dX5_init_8 : decode cX5_init 8 = .ok (.newarray .int, 2) := by decide +kernel
theorem dX5_init_10 : decode cX5_init 10 = .ok (.putfield 9, 3) := by decide +kernel
theorem dX5_init_13 : decode cX5_init 13 = .ok (.aload_n 0, 1) := by decide +kernel
theorem dX5_init_14 : decode cX5_init 14 = .ok (.bipush 31, 2) := by decide +kernel
theorem dX5_init_16 : decode cX5_init 16 = .ok (.newarray .int, 2) := by decide +kernel
theorem dX5_init_18 : decode cX5_init 18 = .ok (.putfield 15, 3) := by decide +kernel
theorem dX5_init_21 : decode cX5_init 21 = .ok (.aload_n 0, 1) := by decide +kernel
theorem dX5_init_22 : decode cX5_init 22 = .ok (.sipush 160, 3) := by decide +kernel
theorem dX5_init_25 : decode cX5_init 25 = .ok (.newarray .int, 2) := by decide +kernel
theorem dX5_init_27 : decode cX5_init 27 = .ok (.putfield 18, 3) := by decide +kernel
theorem dX5_init_30 : decode cX5_init 30 = .ok (.aload_n 0, 1) := by decide +kernel
theorem dX5_init_31 : decode cX5_init 31 = .ok (.sipush 160, 3) := by decide +kernel
theorem dX5_init_34 : decode cX5_init 34 = .ok (.newarray .int, 2) := by decide +kernel
theorem dX5_init_36 : decode cX5_init 36 = .ok (.putfield 21, 3) := by decide +kernel
theorem dX5_init_39 : decode cX5_init 39 = .ok (.aload_n 0, 1) := by decide +kernel
theorem dX5_init_40 : decode cX5_init 40 = .ok (.sipush 160, 3) := by decide +kernel
theorem dX5_init_43 : decode cX5_init 43 = .ok (.newarray .int, 2) := by decide +kernel
theorem dX5_init_45 : decode cX5_init 45 = .ok (.putfield 24, 3) := by decide +kernel
theorem dX5_init_48 : decode cX5_init 48 = .ok (.aload_n 0, 1) := by decide +kernel
theorem dX5_init_49 : decode cX5_init 49 = .ok (.sipush 160, 3) := by decide +kernel
theorem dX5_init_52 : decode cX5_init 52 = .ok (.newarray .int, 2) := by decide +kernel
theorem dX5_init_54 : decode cX5_init 54 = .ok (.putfield 27, 3) := by decide +kernel
theorem dX5_init_57 : decode cX5_init 57 = .ok (.return_, 1) := by decide +kernel
theorem dX5_cutAll_0 : decode cX5_cutAll 0 = .ok (.aload_n 0, 1) := by decide +kernel
theorem dX5_cutAll_1 : decode cX5_cutAll 1 = .ok (.aload_n 1, 1) := by decide +kernel
theorem dX5_cutAll_2 : decode cX5_cutAll 2 = .ok (.bipush (-4), 2) := by decide +kernel
theorem dX5_cutAll_4 : decode cX5_cutAll 4 = .ok (.iconst 0, 1) := by decide +kernel
theorem dX5_cutAll_5 : decode cX5_cutAll 5 = .ok (.invokevirtual 30, 3) := by decide +kernel
theorem dX5_cutAll_8 : decode cX5_cutAll 8 = .ok (.return_, 1) := by decide +kernel
theorem dX5_cutAllMoved_0 : decode cX5_cutAllMoved 0 = .ok (.aload_n 0, 1) := by decide +kernel
theorem dX5_cutAllMoved_1 : decode cX5_cutAllMoved 1 = .ok (.aload_n 1, 1) := by decide +kernel
theorem dX5_cutAllMoved_2 : decode cX5_cutAllMoved 2 = .ok (.invokevirtual 34, 3) := by decide +kernel
theorem dX5_cutAllMoved_5 : decode cX5_cutAllMoved 5 = .ok (.iconst 0, 1) := by decide +kernel
theorem dX5_cutAllMoved_6 : decode cX5_cutAllMoved 6 = .ok (.istore 4, 2) := by decide +kernel
theorem dX5_cutAllMoved_8 : decode cX5_cutAllMoved 8 = .ok (.iload 4, 2) := by decide +kernel
theorem dX5_cutAllMoved_10 : decode cX5_cutAllMoved 10 = .ok (.aload_n 1, 1) := by decide +kernel
theorem dX5_cutAllMoved_11 : decode cX5_cutAllMoved 11 = .ok (.getfield 38, 3) := by decide +kernel
theorem dX5_cutAllMoved_14 : decode cX5_cutAllMoved 14 = .ok (.arraylength, 1) := by decide +kernel
theorem dX5_cutAllMoved_15 : decode cX5_cutAllMoved 15 = .ok (.if_icmp .ge 43, 3) := by decide +kernel
theorem dX5_cutAllMoved_18 : decode cX5_cutAllMoved 18 = .ok (.aload_n 1, 1) := by decide +kernel
theorem dX5_cutAllMoved_19 : decode cX5_cutAllMoved 19 = .ok (.iload 4, 2) := by decide +kernel
theorem dX5_cutAllMoved_21 : decode cX5_cutAllMoved 21 = .ok (.invokevirtual 44, 3) := by decide +kernel
theorem dX5_cutAllMoved_24 : decode cX5_cutAllMoved 24 = .ok (.astore 5, 2) := by decide +kernel
theorem dX5_cutAllMoved_26 : decode cX5_cutAllMoved 26 = .ok (.aload 5, 2) := by decide +kernel
theorem dX5_cutAllMoved_28 : decode cX5_cutAllMoved 28 = .ok (.ifnull 24, 3) := by decide +kernel
theorem dX5_cutAllMoved_31 : decode cX5_cutAllMoved 31 = .ok (.aload_n 0, 1) := by decide +kernel
theorem dX5_cutAllMoved_32 : decode cX5_cutAllMoved 32 = .ok (.aload 5, 2) := by decide +kernel
theorem dX5_cutAllMoved_34 : decode cX5_cutAllMoved 34 = .ok (.iload 4, 2) := by decide +kernel
theorem dX5_cutAllMoved_36 : decode cX5_cutAllMoved 36 = .ok (.iload_n 2, 1) := by decide +kernel
theorem dX5_cutAllMoved_37 : decode cX5_cutAllMoved 37 = .ok (.if_icmp .ne 7, 3) := by decide +kernel
theorem dX5_cutAllMoved_40 : decode cX5_cutAllMoved 40 = .ok (.iload_n 3, 1) := by decide +kernel
theorem dX5_cutAllMoved_41 : decode cX5_cutAllMoved 41 = .ok (.goto 8, 3) := by decide +kernel
theorem dX5_cutAllMoved_44 : decode cX5_cutAllMoved 44 = .ok (.aload 5, 2) := by decide +kernel
theorem dX5_cutAllMoved_46 : decode cX5_cutAllMoved 46 = .ok (.getfield 48, 3) := by decide +kernel
theorem dX5_cutAllMoved_49 : decode cX5_cutAllMoved 49 = .ok (.invokevirtual 54, 3) := by decide +kernel
theorem dX5_cutAllMoved_52 : decode cX5_cutAllMoved 52 = .ok (.iinc 4 1, 3) := by decide +kernel
theorem dX5_cutAllMoved_55 : decode cX5_cutAllMoved 55 = .ok (.goto (-47), 3) := by decide +kernel
theorem dX5_cutAllMoved_58 : decode cX5_cutAllMoved 58 = .ok (.bipush 30, 2) := by decide +kernel
theorem dX5_cutAllMoved_60 : decode cX5_cutAllMoved 60 = .ok (.istore 4, 2) := by decide +kernel
theorem dX5_cutAllMoved_62 : decode cX5_cutAllMoved 62 = .ok (.iload 4, 2) := by decide +kernel
theorem dX5_cutAllMoved_64 : decode cX5_cutAllMoved 64 = .ok (.ifCond .le 60, 3) := by decide +kernel
theorem dX5_cutAllMoved_67 : decode cX5_cutAllMoved 67 = .ok (.iload 4, 2) := by decide +kernel
theorem dX5_cutAllMoved_69 : decode cX5_cutAllMoved 69 = .ok (.aload_n 0, 1) := by decide +kernel
theorem dX5_cutAllMoved_70 : decode cX5_cutAllMoved 70 = .ok (.getfield 58, 3) := by decide +kernel
theorem dX5_cutAllMoved_73 : decode cX5_cutAllMoved 73 = .ok (.imul, 1) := by decide +kernel
theorem dX5_cutAllMoved_74 : decode cX5_cutAllMoved 74 = .ok (.aload_n 0, 1) := by decide +kernel
theorem dX5_cutAllMoved_75 : decode cX5_cutAllMoved 75 = .ok (.getfield 61, 3) := by decide +kernel
theorem dX5_cutAllMoved_78 : decode cX5_cutAllMoved 78 = .ok (.if_icmp .le 22, 3) := by decide +kernel
theorem dX5_cutAllMoved_81 : decode cX5_cutAllMoved 81 = .ok (.aload_n 0, 1) := by decide +kernel
theorem dX5_cutAllMoved_82 : decode cX5_cutAllMoved 82 = .ok (.dup, 1) := by decide +kernel
theorem dX5_cutAllMoved_83 : decode cX5_cutAllMoved 83 = .ok (.getfield 64, 3) := by decide +kernel
theorem dX5_cutAllMoved_86 : decode cX5_cutAllMoved 86 = .ok (.aload_n 0, 1) := by decide +kernel
theorem dX5_cutAllMoved_87 : decode cX5_cutAllMoved 87 = .ok (.getfield 15, 3) := by decide +kernel
theorem dX5_cutAllMoved_90 : decode cX5_cutAllMoved 90 = .ok (.iload 4, 2) := by decide +kernel
theorem dX5_cutAllMoved_92 : decode cX5_cutAllMoved 92 = .ok (.iaload, 1) := by decide +kernel
theorem dX5_cutAllMoved_93 : decode cX5_cutAllMoved 93 = .ok (.iadd, 1) := by decide +kernel
theorem dX5_cutAllMoved_94 : decode cX5_cutAllMoved 94 = .ok (.putfield 64, 3) := by decide +kernel
theorem dX5_cutAllMoved_97 : decode cX5_cutAllMoved 97 = .ok (.goto 21, 3) := by decide +kernel
theorem dX5_cutAllMoved_100 : decode cX5_cutAllMoved 100 = .ok (.aload_n 0, 1) := by decide +kernel
theorem dX5_cutAllMoved_101 : decode cX5_cutAllMoved 101 = .ok (.iload 4, 2) := by decide +kernel
theorem dX5_cutAllMoved_103 : decode cX5_cutAllMoved 103 = .ok (.aload_n 0, 1) := by decide +kernel
theorem dX5_cutAllMoved_104 : decode cX5_cutAllMoved 104 = .ok (.getfield 58, 3) := by decide +kernel
theorem dX5_cutAllMoved_107 : decode cX5_cutAllMoved 107 = .ok (.imul, 1) := by decide +kernel
theorem dX5_cutAllMoved_108 : decode cX5_cutAllMoved 108 = .ok (.aload_n 0, 1) := by decide +kernel
theorem dX5_cutAllMoved_109 : decode cX5_cutAllMoved 109 = .ok (.getfield 15, 3) := by decide +kernel
theorem dX5_cutAllMoved_112 : decode cX5_cutAllMoved 112 = .ok (.iload 4, 2) := by decide +kernel
theorem dX5_cutAllMoved_114 : decode cX5_cutAllMoved 114 = .ok (.iaload, 1) := by decide +kernel
theorem dX5_cutAllMoved_115 : decode cX5_cutAllMoved 115 = .ok (.invokevirtual 67, 3) := by decide +kernel
theorem dX5_cutAllMoved_118 : decode cX5_cutAllMoved 118 = .ok (.iinc 4 (-1), 3) := by decide +kernel
theorem dX5_cutAllMoved_121 : decode cX5_cutAllMoved 121 = .ok (.goto (-59), 3) := by decide +kernel
theorem dX5_cutAllMoved_124 : decode cX5_cutAllMoved 124 = .ok (.return_, 1) := by decide +kernel
theorem dX5_start_0 : decode cX5_start 0 = .ok (.aload_n 0, 1) := by decide +kernel
theorem dX5_start_1 : decode cX5_start 1 = .ok (.aload_n 1, 1) := by decide +kernel
theorem dX5_start_2 : decode cX5_start 2 = .ok (.getfield 71, 3) := by decide +kernel
theorem dX5_start_5 : decode cX5_start 5 = .ok (.putfield 58, 3) := by decide +kernel
theorem dX5_start_8 : decode cX5_start 8 = .ok (.aload_n 0, 1) := by decide +kernel
theorem dX5_start_9 : decode cX5_start 9 = .ok (.aload_n 1, 1) := by decide +kernel
theorem dX5_start_10 : decode cX5_start 10 = .ok (.getfield 72, 3) := by decide +kernel
theorem dX5_start_13 : decode cX5_start 13 = .ok (.putfield 61, 3) := by decide +kernel
theorem dX5_start_16 : decode cX5_start 16 = .ok (.aload_n 0, 1) := by decide +kernel
theorem dX5_start_17 : decode cX5_start 17 = .ok (.aload_n 1, 1) := by decide +kernel
theorem dX5_start_18 : decode cX5_start 18 = .ok (.getfield 73, 3) := by decide +kernel
theorem dX5_start_21 : decode cX5_start 21 = .ok (.putfield 76, 3) := by decide +kernel
theorem dX5_start_24 : decode cX5_start 24 = .ok (.aload_n 0, 1) := by decide +kernel
theorem dX5_start_25 : decode cX5_start 25 = .ok (.iconst 0, 1) := by decide +kernel
theorem dX5_start_26 : decode cX5_start 26 = .ok (.putfield 77, 3) := by decide +kernel
theorem dX5_start_29 : decode cX5_start 29 = .ok (.aload_n 0, 1) := by decide +kernel
theorem dX5_start_30 : decode cX5_start 30 = .ok (.iconst 0, 1) := by decide +kernel
theorem dX5_start_31 : decode cX5_start 31 = .ok (.putfield 80, 3) := by decide +kernel
theorem dX5_start_34 : decode cX5_start 34 = .ok (.aload_n 0, 1) := by decide +kernel
theorem dX5_start_35 : decode cX5_start 35 = .ok (.iconst 0, 1) := by decide +kernel
theorem dX5_start_36 : decode cX5_start 36 = .ok (.putfield 83, 3) := by decide +kernel
theorem dX5_start_39 : decode cX5_start 39 = .ok (.aload_n 0, 1) := by decide +kernel
theorem dX5_start_40 : decode cX5_start 40 = .ok (.iconst 0, 1) := by decide +kernel
theorem dX5_start_41 : decode cX5_start 41 = .ok (.putfield 64, 3) := by decide +kernel
theorem dX5_start_44 : decode cX5_start 44 = .ok (.aload_n 0, 1) := by decide +kernel
theorem dX5_start_45 : decode cX5_start 45 = .ok (.iconst 0, 1) := by decide +kernel
theorem dX5_start_46 : decode cX5_start 46 = .ok (.putfield 86, 3) := by decide +kernel
theorem dX5_start_49 : decode cX5_start 49 = .ok (.aload_n 0, 1) := by decide +kernel
theorem dX5_start_50 : decode cX5_start 50 = .ok (.getfield 15, 3) := by decide +kernel
theorem dX5_start_53 : decode cX5_start 53 = .ok (.iconst 0, 1) := by decide +kernel
theorem dX5_start_54 : decode cX5_start 54 = .ok (.invokestatic 89, 3) := by decide +kernel
theorem dX5_start_57 : decode cX5_start 57 = .ok (.return_, 1) := by decide +kernel
theorem dX5_gather_0 : decode cX5_gather 0 = .ok (.iconst 0, 1) := by decide +kernel
theorem dX5_gather_1 : decode cX5_gather 1 = .ok (.istore_n 3, 1) := by decide +kernel
theorem dX5_gather_2 : decode cX5_gather 2 = .ok (.iload_n 3, 1) := by decide +kernel
theorem dX5_gather_3 : decode cX5_gather 3 = .ok (.aload_n 1, 1) := by decide +kernel
theorem dX5_gather_4 : decode cX5_gather 4 = .ok (.getfield 95, 3) := by decide +kernel
theorem dX5_gather_7 : decode cX5_gather 7 = .ok (.if_icmp .ge 75, 3) := by decide +kernel
theorem dX5_gather_10 : decode cX5_gather 10 = .ok (.aload_n 0, 1) := by decide +kernel
theorem dX5_gather_11 : decode cX5_gather 11 = .ok (.getfield 77, 3) := by decide +kernel
theorem dX5_gather_14 : decode cX5_gather 14 = .ok (.sipush 160, 3) := by decide +kernel
theorem dX5_gather_17 : decode cX5_gather 17 = .ok (.if_icmp .ge 65, 3) := by decide +kernel
theorem dX5_gather_20 : decode cX5_gather 20 = .ok (.aload_n 1, 1) := by decide +kernel
theorem dX5_gather_21 : decode cX5_gather 21 = .ok (.iload_n 3, 1) := by decide +kernel
theorem dX5_gather_22 : decode cX5_gather 22 = .ok (.iload_n 2, 1) := by decide +kernel
theorem dX5_gather_23 : decode cX5_gather 23 = .ok (.iadd, 1) := by decide +kernel
theorem dX5_gather_24 : decode cX5_gather 24 = .ok (.invokevirtual 96, 3) := by decide +kernel
theorem dX5_gather_27 : decode cX5_gather 27 = .ok (.istore 4, 2) := by decide +kernel
theorem dX5_gather_29 : decode cX5_gather 29 = .ok (.iload 4, 2) := by decide +kernel
theorem dX5_gather_31 : decode cX5_gather 31 = .ok (.ifCond .lt 24, 3) := by decide +kernel
theorem dX5_gather_34 : decode cX5_gather 34 = .ok (.iload 4, 2) := by decide +kernel
theorem dX5_gather_36 : decode cX5_gather 36 = .ok (.aload_n 0, 1) := by decide +kernel
theorem dX5_gather_37 : decode cX5_gather 37 = .ok (.getfield 15, 3) := by decide +kernel
theorem dX5_gather_40 : decode cX5_gather 40 = .ok (.arraylength, 1) := by decide +kernel
theorem dX5_gather_41 : decode cX5_gather 41 = .ok (.if_icmp .ge 14, 3) := by decide +kernel
theorem dX5_gather_44 : decode cX5_gather 44 = .ok (.aload_n 0, 1) := by decide +kernel
theorem dX5_gather_45 : decode cX5_gather 45 = .ok (.getfield 15, 3) := by decide +kernel
theorem dX5_gather_48 : decode cX5_gather 48 = .ok (.iload 4, 2) := by decide +kernel
theorem dX5_gather_50 : decode cX5_gather 50 = .ok (.dup2, 1) := by decide +kernel
theorem dX5_gather_51 : decode cX5_gather 51 = .ok (.iaload, 1) := by decide +kernel
theorem dX5_gather_52 : decode cX5_gather 52 = .ok (.iconst 1, 1) := by decide +kernel
theorem dX5_gather_53 : decode cX5_gather 53 = .ok (.iadd, 1) := by decide +kernel
theorem dX5_gather_54 : decode cX5_gather 54 = .ok (.iastore, 1) := by decide +kernel
theorem dX5_gather_55 : decode cX5_gather 55 = .ok (.aload_n 0, 1) := by decide +kernel
theorem dX5_gather_56 : decode cX5_gather 56 = .ok (.getfield 9, 3) := by decide +kernel
theorem dX5_gather_59 : decode cX5_gather 59 = .ok (.aload_n 0, 1) := by decide +kernel
theorem dX5_gather_60 : decode cX5_gather 60 = .ok (.getfield 77, 3) := by decide +kernel
theorem dX5_gather_63 : decode cX5_gather 63 = .ok (.iload 4, 2) := by decide +kernel
theorem dX5_gather_65 : decode cX5_gather 65 = .ok (.iastore, 1) := by decide +kernel
theorem dX5_gather_66 : decode cX5_gather 66 = .ok (.aload_n 0, 1) := by decide +kernel
theorem dX5_gather_67 : decode cX5_gather 67 = .ok (.dup, 1) := by decide +kernel
theorem dX5_gather_68 : decode cX5_gather 68 = .ok (.getfield 77, 3) := by decide +kernel
theorem dX5_gather_71 : decode cX5_gather 71 = .ok (.iconst 1, 1) := by decide +kernel
theorem dX5_gather_72 : decode cX5_gather 72 = .ok (.iadd, 1) := by decide +kernel
theorem dX5_gather_73 : decode cX5_gather 73 = .ok (.putfield 77, 3) := by decide +kernel
theorem dX5_gather_76 : decode cX5_gather 76 = .ok (.iinc 3 1, 3) := by decide +kernel
theorem dX5_gather_79 : decode cX5_gather 79 = .ok (.goto (-77), 3) := by decide +kernel
theorem dX5_gather_82 : decode cX5_gather 82 = .ok (.return_, 1) := by decide +kernel
theorem dX5_cutAlike_0 : decode cX5_cutAlike 0 = .ok (.iconst 0, 1) := by decide +kernel
theorem dX5_cutAlike_1 : decode cX5_cutAlike 1 = .ok (.istore_n 3, 1) := by decide +kernel
theorem dX5_cutAlike_2 : decode cX5_cutAlike 2 = .ok (.iconst 0, 1) := by decide +kernel
theorem dX5_cutAlike_3 : decode cX5_cutAlike 3 = .ok (.istore 4, 2) := by decide +kernel
theorem dX5_cutAlike_5 : decode cX5_cutAlike 5 = .ok (.iload 4, 2) := by decide +kernel
theorem dX5_cutAlike_7 : decode cX5_cutAlike 7 = .ok (.iload_n 2, 1) := by decide +kernel
theorem dX5_cutAlike_8 : decode cX5_cutAlike 8 = .ok (.if_icmp .ge 38, 3) := by decide +kernel
theorem dX5_cutAlike_11 : decode cX5_cutAlike 11 = .ok (.iload_n 3, 1) := by decide +kernel
theorem dX5_cutAlike_12 : decode cX5_cutAlike 12 = .ok (.aload_n 0, 1) := by decide +kernel
theorem dX5_cutAlike_13 : decode cX5_cutAlike 13 = .ok (.getfield 80, 3) := by decide +kernel
theorem dX5_cutAlike_16 : decode cX5_cutAlike 16 = .ok (.if_icmp .ge 18, 3) := by decide +kernel
theorem dX5_cutAlike_19 : decode cX5_cutAlike 19 = .ok (.aload_n 0, 1) := by decide +kernel
theorem dX5_cutAlike_20 : decode cX5_cutAlike 20 = .ok (.iload_n 3, 1) := by decide +kernel
theorem dX5_cutAlike_21 : decode cX5_cutAlike 21 = .ok (.iload_n 1, 1) := by decide +kernel
theorem dX5_cutAlike_22 : decode cX5_cutAlike 22 = .ok (.invokevirtual 100, 3) := by decide +kernel
theorem dX5_cutAlike_25 : decode cX5_cutAlike 25 = .ok (.ifCond .ne 9, 3) := by decide +kernel
theorem dX5_cutAlike_28 : decode cX5_cutAlike 28 = .ok (.iinc 3 1, 3) := by decide +kernel
theorem dX5_cutAlike_31 : decode cX5_cutAlike 31 = .ok (.goto (-20), 3) := by decide +kernel
theorem dX5_cutAlike_34 : decode cX5_cutAlike 34 = .ok (.aload_n 0, 1) := by decide +kernel
theorem dX5_cutAlike_35 : decode cX5_cutAlike 35 = .ok (.iload_n 3, 1) := by decide +kernel
theorem dX5_cutAlike_36 : decode cX5_cutAlike 36 = .ok (.iload_n 1, 1) := by decide +kernel
theorem dX5_cutAlike_37 : decode cX5_cutAlike 37 = .ok (.invokevirtual 104, 3) := by decide +kernel
theorem dX5_cutAlike_40 : decode cX5_cutAlike 40 = .ok (.iinc 4 1, 3) := by decide +kernel
theorem dX5_cutAlike_43 : decode cX5_cutAlike 43 = .ok (.goto (-38), 3) := by decide +kernel
theorem dX5_cutAlike_46 : decode cX5_cutAlike 46 = .ok (.return_, 1) := by decide +kernel
theorem dX5_hasRoom_0 : decode cX5_hasRoom 0 = .ok (.iload_n 1, 1) := by decide +kernel
theorem dX5_hasRoom_1 : decode cX5_hasRoom 1 = .ok (.sipush 160, 3) := by decide +kernel
theorem dX5_hasRoom_4 : decode cX5_hasRoom 4 = .ok (.if_icmp .ge 34, 3) := by decide +kernel
theorem dX5_hasRoom_7 : decode cX5_hasRoom 7 = .ok (.aload_n 0, 1) := by decide +kernel
theorem dX5_hasRoom_8 : decode cX5_hasRoom 8 = .ok (.getfield 21, 3) := by decide +kernel
theorem dX5_hasRoom_11 : decode cX5_hasRoom 11 = .ok (.iload_n 1, 1) := by decide +kernel
theorem dX5_hasRoom_12 : decode cX5_hasRoom 12 = .ok (.iaload, 1) := by decide +kernel
theorem dX5_hasRoom_13 : decode cX5_hasRoom 13 = .ok (.iload_n 2, 1) := by decide +kernel
theorem dX5_hasRoom_14 : decode cX5_hasRoom 14 = .ok (.iadd, 1) := by decide +kernel
theorem dX5_hasRoom_15 : decode cX5_hasRoom 15 = .ok (.aload_n 0, 1) := by decide +kernel
theorem dX5_hasRoom_16 : decode cX5_hasRoom 16 = .ok (.getfield 24, 3) := by decide +kernel
theorem dX5_hasRoom_19 : decode cX5_hasRoom 19 = .ok (.iload_n 1, 1) := by decide +kernel
theorem dX5_hasRoom_20 : decode cX5_hasRoom 20 = .ok (.iaload, 1) := by decide +kernel
theorem dX5_hasRoom_21 : decode cX5_hasRoom 21 = .ok (.aload_n 0, 1) := by decide +kernel
theorem dX5_hasRoom_22 : decode cX5_hasRoom 22 = .ok (.getfield 76, 3) := by decide +kernel
theorem dX5_hasRoom_25 : decode cX5_hasRoom 25 = .ok (.imul, 1) := by decide +kernel
theorem dX5_hasRoom_26 : decode cX5_hasRoom 26 = .ok (.iadd, 1) := by decide +kernel
theorem dX5_hasRoom_27 : decode cX5_hasRoom 27 = .ok (.aload_n 0, 1) := by decide +kernel
theorem dX5_hasRoom_28 : decode cX5_hasRoom 28 = .ok (.getfield 61, 3) := by decide +kernel
theorem dX5_hasRoom_31 : decode cX5_hasRoom 31 = .ok (.if_icmp .gt 7, 3) := by decide +kernel
theorem dX5_hasRoom_34 : decode cX5_hasRoom 34 = .ok (.iconst 1, 1) := by decide +kernel
theorem dX5_hasRoom_35 : decode cX5_hasRoom 35 = .ok (.goto 4, 3) := by decide +kernel
theorem dX5_hasRoom_38 : decode cX5_hasRoom 38 = .ok (.iconst 0, 1) := by decide +kernel
theorem dX5_hasRoom_39 : decode cX5_hasRoom 39 = .ok (.ireturn, 1) := by decide +kernel
theorem dX5_cutFrom_0 : decode cX5_cutFrom 0 = .ok (.iload_n 1, 1) := by decide +kernel
theorem dX5_cutFrom_1 : decode cX5_cutFrom 1 = .ok (.ifCond .lt 20, 3) := by decide +kernel
theorem dX5_cutFrom_4 : decode cX5_cutFrom 4 = .ok (.iload_n 1, 1) := by decide +kernel
theorem dX5_cutFrom_5 : decode cX5_cutFrom 5 = .ok (.sipush 160, 3) := by decide +kernel
theorem dX5_cutFrom_8 : decode cX5_cutFrom 8 = .ok (.if_icmp .ge 13, 3) := by decide +kernel
theorem dX5_cutFrom_11 : decode cX5_cutFrom 11 = .ok (.aload_n 0, 1) := by decide +kernel
theorem dX5_cutFrom_12 : decode cX5_cutFrom 12 = .ok (.getfield 83, 3) := by decide +kernel
theorem dX5_cutFrom_15 : decode cX5_cutFrom 15 = .ok (.sipush 160, 3) := by decide +kernel
theorem dX5_cutFrom_18 : decode cX5_cutFrom 18 = .ok (.if_icmp .lt 4, 3) := by decide +kernel
theorem dX5_cutFrom_21 : decode cX5_cutFrom 21 = .ok (.return_, 1) := by decide +kernel
theorem dX5_cutFrom_22 : decode cX5_cutFrom 22 = .ok (.iload_n 1, 1) := by decide +kernel
theorem dX5_cutFrom_23 : decode cX5_cutFrom 23 = .ok (.aload_n 0, 1) := by decide +kernel
theorem dX5_cutFrom_24 : decode cX5_cutFrom 24 = .ok (.getfield 80, 3) := by decide +kernel
theorem dX5_cutFrom_27 : decode cX5_cutFrom 27 = .ok (.if_icmp .ne 34, 3) := by decide +kernel
theorem dX5_cutFrom_30 : decode cX5_cutFrom 30 = .ok (.aload_n 0, 1) := by decide +kernel
theorem dX5_cutFrom_31 : decode cX5_cutFrom 31 = .ok (.dup, 1) := by decide +kernel
theorem dX5_cutFrom_32 : decode cX5_cutFrom 32 = .ok (.getfield 80, 3) := by decide +kernel
theorem dX5_cutFrom_35 : decode cX5_cutFrom 35 = .ok (.iconst 1, 1) := by decide +kernel
theorem dX5_cutFrom_36 : decode cX5_cutFrom 36 = .ok (.iadd, 1) := by decide +kernel
theorem dX5_cutFrom_37 : decode cX5_cutFrom 37 = .ok (.putfield 80, 3) := by decide +kernel
theorem dX5_cutFrom_40 : decode cX5_cutFrom 40 = .ok (.aload_n 0, 1) := by decide +kernel
theorem dX5_cutFrom_41 : decode cX5_cutFrom 41 = .ok (.getfield 21, 3) := by decide +kernel
theorem dX5_cutFrom_44 : decode cX5_cutFrom 44 = .ok (.iload_n 1, 1) := by decide +kernel
theorem dX5_cutFrom_45 : decode cX5_cutFrom 45 = .ok (.iconst 0, 1) := by decide +kernel
theorem dX5_cutFrom_46 : decode cX5_cutFrom 46 = .ok (.iastore, 1) := by decide +kernel
theorem dX5_cutFrom_47 : decode cX5_cutFrom 47 = .ok (.aload_n 0, 1) := by decide +kernel
theorem dX5_cutFrom_48 : decode cX5_cutFrom 48 = .ok (.getfield 24, 3) := by decide +kernel
theorem dX5_cutFrom_51 : decode cX5_cutFrom 51 = .ok (.iload_n 1, 1) := by decide +kernel
theorem dX5_cutFrom_52 : decode cX5_cutFrom 52 = .ok (.iconst 0, 1) := by decide +kernel
theorem dX5_cutFrom_53 : decode cX5_cutFrom 53 = .ok (.iastore, 1) := by decide +kernel
theorem dX5_cutFrom_54 : decode cX5_cutFrom 54 = .ok (.aload_n 0, 1) := by decide +kernel
theorem dX5_cutFrom_55 : decode cX5_cutFrom 55 = .ok (.getfield 27, 3) := by decide +kernel
theorem dX5_cutFrom_58 : decode cX5_cutFrom 58 = .ok (.iload_n 1, 1) := by decide +kernel
theorem dX5_cutFrom_59 : decode cX5_cutFrom 59 = .ok (.iload_n 2, 1) := by decide +kernel
theorem dX5_cutFrom_60 : decode cX5_cutFrom 60 = .ok (.iastore, 1) := by decide +kernel
theorem dX5_cutFrom_61 : decode cX5_cutFrom 61 = .ok (.aload_n 0, 1) := by decide +kernel
theorem dX5_cutFrom_62 : decode cX5_cutFrom 62 = .ok (.getfield 21, 3) := by decide +kernel
theorem dX5_cutFrom_65 : decode cX5_cutFrom 65 = .ok (.iload_n 1, 1) := by decide +kernel
theorem dX5_cutFrom_66 : decode cX5_cutFrom 66 = .ok (.dup2, 1) := by decide +kernel
theorem dX5_cutFrom_67 : decode cX5_cutFrom 67 = .ok (.iaload, 1) := by decide +kernel
theorem dX5_cutFrom_68 : decode cX5_cutFrom 68 = .ok (.iload_n 2, 1) := by decide +kernel
theorem dX5_cutFrom_69 : decode cX5_cutFrom 69 = .ok (.iadd, 1) := by decide +kernel
theorem dX5_cutFrom_70 : decode cX5_cutFrom 70 = .ok (.iastore, 1) := by decide +kernel
theorem dX5_cutFrom_71 : decode cX5_cutFrom 71 = .ok (.aload_n 0, 1) := by decide +kernel
theorem dX5_cutFrom_72 : decode cX5_cutFrom 72 = .ok (.getfield 24, 3) := by decide +kernel
theorem dX5_cutFrom_75 : decode cX5_cutFrom 75 = .ok (.iload_n 1, 1) := by decide +kernel
theorem dX5_cutFrom_76 : decode cX5_cutFrom 76 = .ok (.dup2, 1) := by decide +kernel
theorem dX5_cutFrom_77 : decode cX5_cutFrom 77 = .ok (.iaload, 1) := by decide +kernel
theorem dX5_cutFrom_78 : decode cX5_cutFrom 78 = .ok (.iconst 1, 1) := by decide +kernel
theorem dX5_cutFrom_79 : decode cX5_cutFrom 79 = .ok (.iadd, 1) := by decide +kernel
theorem dX5_cutFrom_80 : decode cX5_cutFrom 80 = .ok (.iastore, 1) := by decide +kernel
theorem dX5_cutFrom_81 : decode cX5_cutFrom 81 = .ok (.aload_n 0, 1) := by decide +kernel
theorem dX5_cutFrom_82 : decode cX5_cutFrom 82 = .ok (.getfield 18, 3) := by decide +kernel
theorem dX5_cutFrom_85 : decode cX5_cutFrom 85 = .ok (.aload_n 0, 1) := by decide +kernel
theorem dX5_cutFrom_86 : decode cX5_cutFrom 86 = .ok (.getfield 83, 3) := by decide +kernel
theorem dX5_cutFrom_89 : decode cX5_cutFrom 89 = .ok (.iload_n 1, 1) := by decide +kernel
theorem dX5_cutFrom_90 : decode cX5_cutFrom 90 = .ok (.iastore, 1) := by decide +kernel
theorem dX5_cutFrom_91 : decode cX5_cutFrom 91 = .ok (.aload_n 0, 1) := by decide +kernel
theorem dX5_cutFrom_92 : decode cX5_cutFrom 92 = .ok (.dup, 1) := by decide +kernel
theorem dX5_cutFrom_93 : decode cX5_cutFrom 93 = .ok (.getfield 83, 3) := by decide +kernel
theorem dX5_cutFrom_96 : decode cX5_cutFrom 96 = .ok (.iconst 1, 1) := by decide +kernel
theorem dX5_cutFrom_97 : decode cX5_cutFrom 97 = .ok (.iadd, 1) := by decide +kernel
theorem dX5_cutFrom_98 : decode cX5_cutFrom 98 = .ok (.putfield 83, 3) := by decide +kernel
theorem dX5_cutFrom_101 : decode cX5_cutFrom 101 = .ok (.aload_n 0, 1) := by decide +kernel
theorem dX5_cutFrom_102 : decode cX5_cutFrom 102 = .ok (.dup, 1) := by decide +kernel
theorem dX5_cutFrom_103 : decode cX5_cutFrom 103 = .ok (.getfield 86, 3) := by decide +kernel
theorem dX5_cutFrom_106 : decode cX5_cutFrom 106 = .ok (.iload_n 2, 1) := by decide +kernel
theorem dX5_cutFrom_107 : decode cX5_cutFrom 107 = .ok (.iadd, 1) := by decide +kernel
theorem dX5_cutFrom_108 : decode cX5_cutFrom 108 = .ok (.putfield 86, 3) := by decide +kernel
theorem dX5_cutFrom_111 : decode cX5_cutFrom 111 = .ok (.return_, 1) := by decide +kernel
theorem dX5_leftOf_0 : decode cX5_leftOf 0 = .ok (.iload_n 1, 1) := by decide +kernel
theorem dX5_leftOf_1 : decode cX5_leftOf 1 = .ok (.ifCond .lt 18, 3) := by decide +kernel
theorem dX5_leftOf_4 : decode cX5_leftOf 4 = .ok (.iload_n 1, 1) := by decide +kernel
theorem dX5_leftOf_5 : decode cX5_leftOf 5 = .ok (.aload_n 0, 1) := by decide +kernel
theorem dX5_leftOf_6 : decode cX5_leftOf 6 = .ok (.getfield 80, 3) := by decide +kernel
theorem dX5_leftOf_9 : decode cX5_leftOf 9 = .ok (.if_icmp .ge 10, 3) := by decide +kernel
theorem dX5_leftOf_12 : decode cX5_leftOf 12 = .ok (.iload_n 1, 1) := by decide +kernel
theorem dX5_leftOf_13 : decode cX5_leftOf 13 = .ok (.sipush 160, 3) := by decide +kernel
theorem dX5_leftOf_16 : decode cX5_leftOf 16 = .ok (.if_icmp .lt 7, 3) := by decide +kernel
theorem dX5_leftOf_19 : decode cX5_leftOf 19 = .ok (.iconst 0, 1) := by decide +kernel
theorem dX5_leftOf_20 : decode cX5_leftOf 20 = .ok (.goto 14, 3) := by decide +kernel
theorem dX5_leftOf_23 : decode cX5_leftOf 23 = .ok (.aload_n 0, 1) := by decide +kernel
theorem dX5_leftOf_24 : decode cX5_leftOf 24 = .ok (.getfield 61, 3) := by decide +kernel
theorem dX5_leftOf_27 : decode cX5_leftOf 27 = .ok (.aload_n 0, 1) := by decide +kernel
theorem dX5_leftOf_28 : decode cX5_leftOf 28 = .ok (.getfield 21, 3) := by decide +kernel
theorem dX5_leftOf_31 : decode cX5_leftOf 31 = .ok (.iload_n 1, 1) := by decide +kernel
theorem dX5_leftOf_32 : decode cX5_leftOf 32 = .ok (.iaload, 1) := by decide +kernel
theorem dX5_leftOf_33 : decode cX5_leftOf 33 = .ok (.isub, 1) := by decide +kernel
theorem dX5_leftOf_34 : decode cX5_leftOf 34 = .ok (.ireturn, 1) := by decide +kernel
theorem dX5_leftOfLast_0 : decode cX5_leftOfLast 0 = .ok (.aload_n 0, 1) := by decide +kernel
theorem dX5_leftOfLast_1 : decode cX5_leftOfLast 1 = .ok (.aload_n 0, 1) := by decide +kernel
theorem dX5_leftOfLast_2 : decode cX5_leftOfLast 2 = .ok (.getfield 80, 3) := by decide +kernel
theorem dX5_leftOfLast_5 : decode cX5_leftOfLast 5 = .ok (.iconst 1, 1) := by decide +kernel
theorem dX5_leftOfLast_6 : decode cX5_leftOfLast 6 = .ok (.isub, 1) := by decide +kernel
theorem dX5_leftOfLast_7 : decode cX5_leftOfLast 7 = .ok (.invokevirtual 107, 3) := by decide +kernel
theorem dX5_leftOfLast_10 : decode cX5_leftOfLast 10 = .ok (.ireturn, 1) := by decide +kernel
theorem dX5_isBetterThan_0 : decode cX5_isBetterThan 0 = .ok (.aload_n 0, 1) := by decide +kernel
theorem dX5_isBetterThan_1 : decode cX5_isBetterThan 1 = .ok (.getfield 64, 3) := by decide +kernel
theorem dX5_isBetterThan_4 : decode cX5_isBetterThan 4 = .ok (.iload_n 1, 1) := by decide +kernel
theorem dX5_isBetterThan_5 : decode cX5_isBetterThan 5 = .ok (.if_icmp .eq 17, 3) := by decide +kernel
theorem dX5_isBetterThan_8 : decode cX5_isBetterThan 8 = .ok (.aload_n 0, 1) := by decide +kernel
theorem dX5_isBetterThan_9 : decode cX5_isBetterThan 9 = .ok (.getfield 64, 3) := by decide +kernel
theorem dX5_isBetterThan_12 : decode cX5_isBetterThan 12 = .ok (.iload_n 1, 1) := by decide +kernel
theorem dX5_isBetterThan_13 : decode cX5_isBetterThan 13 = .ok (.if_icmp .ge 7, 3) := by decide +kernel
theorem dX5_isBetterThan_16 : decode cX5_isBetterThan 16 = .ok (.iconst 1, 1) := by decide +kernel
theorem dX5_isBetterThan_17 : decode cX5_isBetterThan 17 = .ok (.goto 4, 3) := by decide +kernel
theorem dX5_isBetterThan_20 : decode cX5_isBetterThan 20 = .ok (.iconst 0, 1) := by decide +kernel
theorem dX5_isBetterThan_21 : decode cX5_isBetterThan 21 = .ok (.ireturn, 1) := by decide +kernel
theorem dX5_isBetterThan_22 : decode cX5_isBetterThan 22 = .ok (.aload_n 0, 1) := by decide +kernel
theorem dX5_isBetterThan_23 : decode cX5_isBetterThan 23 = .ok (.getfield 80, 3) := by decide +kernel
theorem dX5_isBetterThan_26 : decode cX5_isBetterThan 26 = .ok (.iload_n 2, 1) := by decide +kernel
theorem dX5_isBetterThan_27 : decode cX5_isBetterThan 27 = .ok (.if_icmp .eq 17, 3) := by decide +kernel
theorem dX5_isBetterThan_30 : decode cX5_isBetterThan 30 = .ok (.aload_n 0, 1) := by decide +kernel
theorem dX5_isBetterThan_31 : decode cX5_isBetterThan 31 = .ok (.getfield 80, 3) := by decide +kernel
theorem dX5_isBetterThan_34 : decode cX5_isBetterThan 34 = .ok (.iload_n 2, 1) := by decide +kernel
theorem dX5_isBetterThan_35 : decode cX5_isBetterThan 35 = .ok (.if_icmp .ge 7, 3) := by decide +kernel
theorem dX5_isBetterThan_38 : decode cX5_isBetterThan 38 = .ok (.iconst 1, 1) := by decide +kernel
theorem dX5_isBetterThan_39 : decode cX5_isBetterThan 39 = .ok (.goto 4, 3) := by decide +kernel
theorem dX5_isBetterThan_42 : decode cX5_isBetterThan 42 = .ok (.iconst 0, 1) := by decide +kernel
theorem dX5_isBetterThan_43 : decode cX5_isBetterThan 43 = .ok (.ireturn, 1) := by decide +kernel
theorem dX5_isBetterThan_44 : decode cX5_isBetterThan 44 = .ok (.aload_n 0, 1) := by decide +kernel
theorem dX5_isBetterThan_45 : decode cX5_isBetterThan 45 = .ok (.invokevirtual 110, 3) := by decide +kernel
theorem dX5_isBetterThan_48 : decode cX5_isBetterThan 48 = .ok (.iload_n 3, 1) := by decide +kernel
theorem dX5_isBetterThan_49 : decode cX5_isBetterThan 49 = .ok (.if_icmp .le 7, 3) := by decide +kernel
theorem dX5_isBetterThan_52 : decode cX5_isBetterThan 52 = .ok (.iconst 1, 1) := by decide +kernel
theorem dX5_isBetterThan_53 : decode cX5_isBetterThan 53 = .ok (.goto 4, 3) := by decide +kernel
theorem dX5_isBetterThan_56 : decode cX5_isBetterThan 56 = .ok (.iconst 0, 1) := by decide +kernel
theorem dX5_isBetterThan_57 : decode cX5_isBetterThan 57 = .ok (.ireturn, 1) := by decide +kernel
theorem dX5_boardOfWell_0 : decode cX5_boardOfWell 0 = .ok (.iload_n 1, 1) := by decide +kernel
theorem dX5_boardOfWell_1 : decode cX5_boardOfWell 1 = .ok (.ifCond .lt 18, 3) := by decide +kernel
theorem dX5_boardOfWell_4 : decode cX5_boardOfWell 4 = .ok (.iload_n 1, 1) := by decide +kernel
theorem dX5_boardOfWell_5 : decode cX5_boardOfWell 5 = .ok (.aload_n 0, 1) := by decide +kernel
theorem dX5_boardOfWell_6 : decode cX5_boardOfWell 6 = .ok (.getfield 77, 3) := by decide +kernel
theorem dX5_boardOfWell_9 : decode cX5_boardOfWell 9 = .ok (.if_icmp .ge 10, 3) := by decide +kernel
theorem dX5_boardOfWell_12 : decode cX5_boardOfWell 12 = .ok (.iload_n 1, 1) := by decide +kernel
theorem dX5_boardOfWell_13 : decode cX5_boardOfWell 13 = .ok (.sipush 160, 3) := by decide +kernel
theorem dX5_boardOfWell_16 : decode cX5_boardOfWell 16 = .ok (.if_icmp .lt 6, 3) := by decide +kernel
theorem dX5_boardOfWell_19 : decode cX5_boardOfWell 19 = .ok (.bipush (-4), 2) := by decide +kernel
theorem dX5_boardOfWell_21 : decode cX5_boardOfWell 21 = .ok (.ireturn, 1) := by decide +kernel
theorem dX5_boardOfWell_22 : decode cX5_boardOfWell 22 = .ok (.aload_n 0, 1) := by decide +kernel
theorem dX5_boardOfWell_23 : decode cX5_boardOfWell 23 = .ok (.getfield 9, 3) := by decide +kernel
theorem dX5_boardOfWell_26 : decode cX5_boardOfWell 26 = .ok (.iload_n 1, 1) := by decide +kernel
theorem dX5_boardOfWell_27 : decode cX5_boardOfWell 27 = .ok (.iaload, 1) := by decide +kernel
theorem dX5_boardOfWell_28 : decode cX5_boardOfWell 28 = .ok (.istore_n 2, 1) := by decide +kernel
theorem dX5_boardOfWell_29 : decode cX5_boardOfWell 29 = .ok (.iload_n 2, 1) := by decide +kernel
theorem dX5_boardOfWell_30 : decode cX5_boardOfWell 30 = .ok (.iconst 1, 1) := by decide +kernel
theorem dX5_boardOfWell_31 : decode cX5_boardOfWell 31 = .ok (.if_icmp .lt 16, 3) := by decide +kernel
theorem dX5_boardOfWell_34 : decode cX5_boardOfWell 34 = .ok (.iload_n 2, 1) := by decide +kernel
theorem dX5_boardOfWell_35 : decode cX5_boardOfWell 35 = .ok (.aload_n 0, 1) := by decide +kernel
theorem dX5_boardOfWell_36 : decode cX5_boardOfWell 36 = .ok (.getfield 58, 3) := by decide +kernel
theorem dX5_boardOfWell_39 : decode cX5_boardOfWell 39 = .ok (.imul, 1) := by decide +kernel
theorem dX5_boardOfWell_40 : decode cX5_boardOfWell 40 = .ok (.aload_n 0, 1) := by decide +kernel
theorem dX5_boardOfWell_41 : decode cX5_boardOfWell 41 = .ok (.getfield 61, 3) := by decide +kernel
theorem dX5_boardOfWell_44 : decode cX5_boardOfWell 44 = .ok (.if_icmp .le 6, 3) := by decide +kernel
theorem dX5_boardOfWell_47 : decode cX5_boardOfWell 47 = .ok (.bipush (-4), 2) := by decide +kernel
theorem dX5_boardOfWell_49 : decode cX5_boardOfWell 49 = .ok (.ireturn, 1) := by decide +kernel
theorem dX5_boardOfWell_50 : decode cX5_boardOfWell 50 = .ok (.iconst 0, 1) := by decide +kernel
theorem dX5_boardOfWell_51 : decode cX5_boardOfWell 51 = .ok (.istore_n 3, 1) := by decide +kernel
theorem dX5_boardOfWell_52 : decode cX5_boardOfWell 52 = .ok (.iconst 0, 1) := by decide +kernel
theorem dX5_boardOfWell_53 : decode cX5_boardOfWell 53 = .ok (.istore 4, 2) := by decide +kernel
theorem dX5_boardOfWell_55 : decode cX5_boardOfWell 55 = .ok (.iload 4, 2) := by decide +kernel
theorem dX5_boardOfWell_57 : decode cX5_boardOfWell 57 = .ok (.aload_n 0, 1) := by decide +kernel
theorem dX5_boardOfWell_58 : decode cX5_boardOfWell 58 = .ok (.getfield 77, 3) := by decide +kernel
theorem dX5_boardOfWell_61 : decode cX5_boardOfWell 61 = .ok (.if_icmp .ge 79, 3) := by decide +kernel
theorem dX5_boardOfWell_64 : decode cX5_boardOfWell 64 = .ok (.iload 4, 2) := by decide +kernel
theorem dX5_boardOfWell_66 : decode cX5_boardOfWell 66 = .ok (.sipush 160, 3) := by decide +kernel
theorem dX5_boardOfWell_69 : decode cX5_boardOfWell 69 = .ok (.if_icmp .ge 71, 3) := by decide +kernel
theorem dX5_boardOfWell_72 : decode cX5_boardOfWell 72 = .ok (.aload_n 0, 1) := by decide +kernel
theorem dX5_boardOfWell_73 : decode cX5_boardOfWell 73 = .ok (.getfield 9, 3) := by decide +kernel
theorem dX5_boardOfWell_76 : decode cX5_boardOfWell 76 = .ok (.iload 4, 2) := by decide +kernel
theorem dX5_boardOfWell_78 : decode cX5_boardOfWell 78 = .ok (.iaload, 1) := by decide +kernel
theorem dX5_boardOfWell_79 : decode cX5_boardOfWell 79 = .ok (.iload_n 2, 1) := by decide +kernel
theorem dX5_boardOfWell_80 : decode cX5_boardOfWell 80 = .ok (.if_icmp .le 26, 3) := by decide +kernel
theorem dX5_boardOfWell_83 : decode cX5_boardOfWell 83 = .ok (.aload_n 0, 1) := by decide +kernel
theorem dX5_boardOfWell_84 : decode cX5_boardOfWell 84 = .ok (.getfield 9, 3) := by decide +kernel
theorem dX5_boardOfWell_87 : decode cX5_boardOfWell 87 = .ok (.iload 4, 2) := by decide +kernel
theorem dX5_boardOfWell_89 : decode cX5_boardOfWell 89 = .ok (.iaload, 1) := by decide +kernel
theorem dX5_boardOfWell_90 : decode cX5_boardOfWell 90 = .ok (.aload_n 0, 1) := by decide +kernel
theorem dX5_boardOfWell_91 : decode cX5_boardOfWell 91 = .ok (.getfield 58, 3) := by decide +kernel
theorem dX5_boardOfWell_94 : decode cX5_boardOfWell 94 = .ok (.imul, 1) := by decide +kernel
theorem dX5_boardOfWell_95 : decode cX5_boardOfWell 95 = .ok (.aload_n 0, 1) := by decide +kernel
theorem dX5_boardOfWell_96 : decode cX5_boardOfWell 96 = .ok (.getfield 61, 3) := by decide +kernel
theorem dX5_boardOfWell_99 : decode cX5_boardOfWell 99 = .ok (.if_icmp .gt 7, 3) := by decide +kernel
theorem dX5_boardOfWell_102 : decode cX5_boardOfWell 102 = .ok (.iconst 1, 1) := by decide +kernel
theorem dX5_boardOfWell_103 : decode cX5_boardOfWell 103 = .ok (.goto 4, 3) := by decide +kernel
theorem dX5_boardOfWell_106 : decode cX5_boardOfWell 106 = .ok (.iconst 0, 1) := by decide +kernel
theorem dX5_boardOfWell_107 : decode cX5_boardOfWell 107 = .ok (.istore 5, 2) := by decide +kernel
theorem dX5_boardOfWell_109 : decode cX5_boardOfWell 109 = .ok (.iload 5, 2) := by decide +kernel
theorem dX5_boardOfWell_111 : decode cX5_boardOfWell 111 = .ok (.ifCond .ne 20, 3) := by decide +kernel
theorem dX5_boardOfWell_114 : decode cX5_boardOfWell 114 = .ok (.aload_n 0, 1) := by decide +kernel
theorem dX5_boardOfWell_115 : decode cX5_boardOfWell 115 = .ok (.getfield 9, 3) := by decide +kernel
theorem dX5_boardOfWell_118 : decode cX5_boardOfWell 118 = .ok (.iload 4, 2) := by decide +kernel
theorem dX5_boardOfWell_120 : decode cX5_boardOfWell 120 = .ok (.iaload, 1) := by decide +kernel
theorem dX5_boardOfWell_121 : decode cX5_boardOfWell 121 = .ok (.iload_n 2, 1) := by decide +kernel
theorem dX5_boardOfWell_122 : decode cX5_boardOfWell 122 = .ok (.if_icmp .ne 12, 3) := by decide +kernel
theorem dX5_boardOfWell_125 : decode cX5_boardOfWell 125 = .ok (.iload 4, 2) := by decide +kernel
theorem dX5_boardOfWell_127 : decode cX5_boardOfWell 127 = .ok (.iload_n 1, 1) := by decide +kernel
theorem dX5_boardOfWell_128 : decode cX5_boardOfWell 128 = .ok (.if_icmp .ge 6, 3) := by decide +kernel
theorem dX5_boardOfWell_131 : decode cX5_boardOfWell 131 = .ok (.iinc 3 1, 3) := by decide +kernel
theorem dX5_boardOfWell_134 : decode cX5_boardOfWell 134 = .ok (.iinc 4 1, 3) := by decide +kernel
theorem dX5_boardOfWell_137 : decode cX5_boardOfWell 137 = .ok (.goto (-82), 3) := by decide +kernel
theorem dX5_boardOfWell_140 : decode cX5_boardOfWell 140 = .ok (.iload_n 3, 1) := by decide +kernel
theorem dX5_boardOfWell_141 : decode cX5_boardOfWell 141 = .ok (.aload_n 0, 1) := by decide +kernel
theorem dX5_boardOfWell_142 : decode cX5_boardOfWell 142 = .ok (.getfield 83, 3) := by decide +kernel
theorem dX5_boardOfWell_145 : decode cX5_boardOfWell 145 = .ok (.if_icmp .ge 12, 3) := by decide +kernel
theorem dX5_boardOfWell_148 : decode cX5_boardOfWell 148 = .ok (.aload_n 0, 1) := by decide +kernel
theorem dX5_boardOfWell_149 : decode cX5_boardOfWell 149 = .ok (.getfield 18, 3) := by decide +kernel
theorem dX5_boardOfWell_152 : decode cX5_boardOfWell 152 = .ok (.iload_n 3, 1) := by decide +kernel
theorem dX5_boardOfWell_153 : decode cX5_boardOfWell 153 = .ok (.iaload, 1) := by decide +kernel
theorem dX5_boardOfWell_154 : decode cX5_boardOfWell 154 = .ok (.goto 5, 3) := by decide +kernel
theorem dX5_boardOfWell_157 : decode cX5_boardOfWell 157 = .ok (.bipush (-4), 2) := by decide +kernel
theorem dX5_boardOfWell_159 : decode cX5_boardOfWell 159 = .ok (.ireturn, 1) := by decide +kernel
theorem dX6_init_0 : decode cX6_init 0 = .ok (.aload_n 0, 1) := by decide +kernel
theorem dX6_init_1 : decode cX6_init 1 = .ok (.invokespecial 1, 3) := by decide +kernel
theorem dX6_init_4 : decode cX6_init 4 = .ok (.aload_n 0, 1) := by decide +kernel
theorem dX6_init_5 : decode cX6_init 5 = .ok (.sipush 200, 3) := by decide +kernel
theorem dX6_init_8 : decode cX6_init 8 = .ok (.newarray .char, 2) := by decide +kernel
theorem dX6_init_10 : decode cX6_init 10 = .ok (.putfield 9, 3) := by decide +kernel
theorem dX6_init_13 : decode cX6_init 13 = .ok (.aload_n 0, 1) := by decide +kernel
theorem dX6_init_14 : decode cX6_init 14 = .ok (.new 13, 3) := by decide +kernel
theorem dX6_init_17 : decode cX6_init 17 = .ok (.dup, 1) := by decide +kernel
theorem dX6_init_18 : decode cX6_init 18 = .ok (.invokespecial 15, 3) := by decide +kernel
theorem dX6_init_21 : decode cX6_init 21 = .ok (.putfield 16, 3) := by decide +kernel
theorem dX6_init_24 : decode cX6_init 24 = .ok (.aload_n 0, 1) := by decide +kernel
theorem dX6_init_25 : decode cX6_init 25 = .ok (.new 20, 3) := by decide +kernel
theorem dX6_init_28 : decode cX6_init 28 = .ok (.dup, 1) := by decide +kernel
theorem dX6_init_29 : decode cX6_init 29 = .ok (.invokespecial 22, 3) := by decide +kernel
theorem dX6_init_32 : decode cX6_init 32 = .ok (.putfield 23, 3) := by decide +kernel
theorem dX6_init_35 : decode cX6_init 35 = .ok (.aload_n 0, 1) := by decide +kernel
theorem dX6_init_36 : decode cX6_init 36 = .ok (.new 27, 3) := by decide +kernel
theorem dX6_init_39 : decode cX6_init 39 = .ok (.dup, 1) := by decide +kernel
theorem dX6_init_40 : decode cX6_init 40 = .ok (.invokespecial 29, 3) := by decide +kernel
theorem dX6_init_43 : decode cX6_init 43 = .ok (.putfield 30, 3) := by decide +kernel
theorem dX6_init_46 : decode cX6_init 46 = .ok (.iconst 3, 1) := by decide +kernel
theorem dX6_init_47 : decode cX6_init 47 = .ok (.anewarray 34, 3) := by decide +kernel
theorem dX6_init_50 : decode cX6_init 50 = .ok (.astore_n 1, 1) := by decide +kernel
theorem dX6_init_51 : decode cX6_init 51 = .ok (.aload_n 1, 1) := by decide +kernel
theorem dX6_init_52 : decode cX6_init 52 = .ok (.iconst 0, 1) := by decide +kernel
theorem dX6_init_53 : decode cX6_init 53 = .ok (.new 34, 3) := by decide +kernel
theorem dX6_init_56 : decode cX6_init 56 = .ok (.dup, 1) := by decide +kernel
theorem dX6_init_57 : decode cX6_init 57 = .ok (.iconst 0, 1) := by decide +kernel
theorem dX6_init_58 : decode cX6_init 58 = .ok (.bipush 7, 2) := by decide +kernel
theorem dX6_init_60 : decode cX6_init 60 = .ok (.iconst 1, 1) := by decide +kernel
theorem dX6_init_61 : decode cX6_init 61 = .ok (.iconst 0, 1) := by decide +kernel
theorem dX6_init_62 : decode cX6_init 62 = .ok (.bipush 14, 2) := by decide +kernel
theorem dX6_init_64 : decode cX6_init 64 = .ok (.invokespecial 36, 3) := by decide +kernel
theorem dX6_init_67 : decode cX6_init 67 = .ok (.aastore, 1) := by decide +kernel
theorem dX6_init_68 : decode cX6_init 68 = .ok (.aload_n 1, 1) := by decide +kernel
theorem dX6_init_69 : decode cX6_init 69 = .ok (.iconst 1, 1) := by decide +kernel
theorem dX6_init_70 : decode cX6_init 70 = .ok (.new 34, 3) := by decide +kernel
theorem dX6_init_73 : decode cX6_init 73 = .ok (.dup, 1) := by decide +kernel
theorem dX6_init_74 : decode cX6_init 74 = .ok (.iconst 1, 1) := by decide +kernel
theorem dX6_init_75 : decode cX6_init 75 = .ok (.bipush 11, 2) := by decide +kernel
theorem dX6_init_77 : decode cX6_init 77 = .ok (.iconst 2, 1) := by decide +kernel
theorem dX6_init_78 : decode cX6_init 78 = .ok (.iconst 3, 1) := by decide +kernel
theorem dX6_init_79 : decode cX6_init 79 = .ok (.bipush 10, 2) := by decide +kernel
theorem dX6_init_81 : decode cX6_init 81 = .ok (.invokespecial 36, 3) := by decide +kernel
theorem dX6_init_84 : decode cX6_init 84 = .ok (.aastore, 1) := by decide +kernel
theorem dX6_init_85 : decode cX6_init 85 = .ok (.aload_n 1, 1) := by decide +kernel
theorem dX6_init_86 : decode cX6_init 86 = .ok (.iconst 2, 1) := by decide +kernel
theorem dX6_init_87 : decode cX6_init 87 = .ok (.new 34, 3) := by decide +kernel
theorem dX6_init_90 : decode cX6_init 90 = .ok (.dup, 1) := by decide +kernel
theorem dX6_init_91 : decode cX6_init 91 = .ok (.iconst 2, 1) := by decide +kernel
theorem dX6_init_92 : decode cX6_init 92 = .ok (.bipush 13, 2) := by decide +kernel
theorem dX6_init_94 : decode cX6_init 94 = .ok (.iconst 4, 1) := by decide +kernel
theorem dX6_init_95 : decode cX6_init 95 = .ok (.iconst 0, 1) := by decide +kernel
theorem dX6_init_96 : decode cX6_init 96 = .ok (.bipush 13, 2) := by decide +kernel
theorem dX6_init_98 : decode cX6_init 98 = .ok (.invokespecial 36, 3) := by decide +kernel
theorem dX6_init_101 : decode cX6_init 101 = .ok (.aastore, 1) := by decide +kernel
theorem dX6_init_102 : decode cX6_init 102 = .ok (.aload_n 0, 1) := by decide +kernel
theorem dX6_init_103 : decode cX6_init 103 = .ok (.new 39, 3) := by decide +kernel
theorem dX6_init_106 : decode cX6_init 106 = .ok (.dup, 1) := by decide +kernel
theorem dX6_init_107 : decode cX6_init 107 = .ok (.aload_n 1, 1) := by decide +kernel
theorem dX6_init_108 : decode cX6_init 108 = .ok (.iconst 3, 1) := by decide +kernel
theorem dX6_init_109 : decode cX6_init 109 = .ok (.bipush 40, 2) := by decide +kernel
theorem dX6_init_111 : decode cX6_init 111 = .ok (.iconst 1, 1) := by decide +kernel
theorem dX6_init_112 : decode cX6_init 112 = .ok (.invokespecial 41, 3) := by decide +kernel
theorem dX6_init_115 : decode cX6_init 115 = .ok (.putfield 44, 3) := by decide +kernel
theorem dX6_init_118 : decode cX6_init 118 = .ok (.aload_n 0, 1) := by decide +kernel
theorem dX6_init_119 : decode cX6_init 119 = .ok (.iconst 0, 1) := by decide +kernel
theorem dX6_init_120 : decode cX6_init 120 = .ok (.putfield 48, 3) := by decide +kernel
theorem dX6_init_123 : decode cX6_init 123 = .ok (.return_, 1) := by decide +kernel
theorem dX6_write_0 : decode cX6_write 0 = .ok (.iload_n 1, 1) := by decide +kernel
theorem dX6_write_1 : decode cX6_write 1 = .ok (.bipush 32, 2) := by decide +kernel
theorem dX6_write_3 : decode cX6_write 3 = .ok (.if_icmp .lt 9, 3) := by decide +kernel
theorem dX6_write_6 : decode cX6_write 6 = .ok (.iload_n 1, 1) := by decide +kernel
theorem dX6_write_7 : decode cX6_write 7 = .ok (.bipush 126, 2) := by decide +kernel
theorem dX6_write_9 : decode cX6_write 9 = .ok (.if_icmp .le 5, 3) := by decide +kernel
theorem dX6_write_12 : decode cX6_write 12 = .ok (.iconst (-1), 1) := by decide +kernel
theorem dX6_write_13 : decode cX6_write 13 = .ok (.ireturn, 1) := by decide +kernel
theorem dX6_write_14 : decode cX6_write 14 = .ok (.aload_n 0, 1) := by decide +kernel
theorem dX6_write_15 : decode cX6_write 15 = .ok (.getfield 48, 3) := by decide +kernel
theorem dX6_write_18 : decode cX6_write 18 = .ok (.ifCond .lt 15, 3) := by decide +kernel
theorem dX6_write_21 : decode cX6_write 21 = .ok (.aload_n 0, 1) := by decide +kernel
theorem dX6_write_22 : decode cX6_write 22 = .ok (.getfield 48, 3) := by decide +kernel
theorem dX6_write_25 : decode cX6_write 25 = .ok (.aload_n 0, 1) := by decide +kernel
theorem dX6_write_26 : decode cX6_write 26 = .ok (.getfield 9, 3) := by decide +kernel
theorem dX6_write_29 : decode cX6_write 29 = .ok (.arraylength, 1) := by decide +kernel
theorem dX6_write_30 : decode cX6_write 30 = .ok (.if_icmp .lt 6, 3) := by decide +kernel
theorem dX6_write_33 : decode cX6_write 33 = .ok (.bipush (-3), 2) := by decide +kernel
theorem dX6_write_35 : decode cX6_write 35 = .ok (.ireturn, 1) := by decide +kernel
theorem dX6_write_36 : decode cX6_write 36 = .ok (.aload_n 0, 1) := by decide +kernel
theorem dX6_write_37 : decode cX6_write 37 = .ok (.getfield 9, 3) := by decide +kernel
theorem dX6_write_40 : decode cX6_write 40 = .ok (.aload_n 0, 1) := by decide +kernel
theorem dX6_write_41 : decode cX6_write 41 = .ok (.getfield 48, 3) := by decide +kernel
theorem dX6_write_44 : decode cX6_write 44 = .ok (.iload_n 1, 1) := by decide +kernel
theorem dX6_write_45 : decode cX6_write 45 = .ok (.i2c, 1) := by decide +kernel
theorem dX6_write_46 : decode cX6_write 46 = .ok (.castore, 1) := by decide +kernel
theorem dX6_write_47 : decode cX6_write 47 = .ok (.aload_n 0, 1) := by decide +kernel
theorem dX6_write_48 : decode cX6_write 48 = .ok (.dup, 1) := by decide +kernel
theorem dX6_write_49 : decode cX6_write 49 = .ok (.getfield 48, 3) := by decide +kernel
theorem dX6_write_52 : decode cX6_write 52 = .ok (.iconst 1, 1) := by decide +kernel
theorem dX6_write_53 : decode cX6_write 53 = .ok (.iadd, 1) := by decide +kernel
theorem dX6_write_54 : decode cX6_write 54 = .ok (.putfield 48, 3) := by decide +kernel
theorem dX6_write_57 : decode cX6_write 57 = .ok (.aload_n 0, 1) := by decide +kernel
theorem dX6_write_58 : decode cX6_write 58 = .ok (.getfield 48, 3) := by decide +kernel
theorem dX6_write_61 : decode cX6_write 61 = .ok (.ireturn, 1) := by decide +kernel
theorem dX6_wipe_0 : decode cX6_wipe 0 = .ok (.aload_n 0, 1) := by decide +kernel
theorem dX6_wipe_1 : decode cX6_wipe 1 = .ok (.getfield 48, 3) := by decide +kernel
theorem dX6_wipe_4 : decode cX6_wipe 4 = .ok (.istore_n 1, 1) := by decide +kernel
theorem dX6_wipe_5 : decode cX6_wipe 5 = .ok (.aload_n 0, 1) := by decide +kernel
theorem dX6_wipe_6 : decode cX6_wipe 6 = .ok (.iconst 0, 1) := by decide +kernel
theorem dX6_wipe_7 : decode cX6_wipe 7 = .ok (.putfield 48, 3) := by decide +kernel
theorem dX6_wipe_10 : decode cX6_wipe 10 = .ok (.iload_n 1, 1) := by decide +kernel
theorem dX6_wipe_11 : decode cX6_wipe 11 = .ok (.ireturn, 1) := by decide +kernel
theorem dX6_fault_0 : decode cX6_fault 0 = .ok (.aload_n 0, 1) := by decide +kernel
theorem dX6_fault_1 : decode cX6_fault 1 = .ok (.getfield 16, 3) := by decide +kernel
theorem dX6_fault_4 : decode cX6_fault 4 = .ok (.aload_n 0, 1) := by decide +kernel
theorem dX6_fault_5 : decode cX6_fault 5 = .ok (.getfield 9, 3) := by decide +kernel
theorem dX6_fault_8 : decode cX6_fault 8 = .ok (.aload_n 0, 1) := by decide +kernel
theorem dX6_fault_9 : decode cX6_fault 9 = .ok (.getfield 48, 3) := by decide +kernel
theorem dX6_fault_12 : decode cX6_fault 12 = .ok (.invokevirtual 52, 3) := by decide +kernel
theorem dX6_fault_15 : decode cX6_fault 15 = .ok (.ireturn, 1) := by decide +kernel
theorem dX6_lay_0 : decode cX6_lay 0 = .ok (.aload_n 0, 1) := by decide +kernel
theorem dX6_lay_1 : decode cX6_lay 1 = .ok (.getfield 16, 3) := by decide +kernel
theorem dX6_lay_4 : decode cX6_lay 4 = .ok (.aload_n 0, 1) := by decide +kernel
theorem dX6_lay_5 : decode cX6_lay 5 = .ok (.getfield 9, 3) := by decide +kernel
theorem dX6_lay_8 : decode cX6_lay 8 = .ok (.aload_n 0, 1) := by decide +kernel
theorem dX6_lay_9 : decode cX6_lay 9 = .ok (.getfield 48, 3) := by decide +kernel
theorem dX6_lay_12 : decode cX6_lay 12 = .ok (.invokevirtual 52, 3) := by decide +kernel
theorem dX6_lay_15 : decode cX6_lay 15 = .ok (.bipush (-4), 2) := by decide +kernel
theorem dX6_lay_17 : decode cX6_lay 17 = .ok (.if_icmp .eq 6, 3) := by decide +kernel
theorem dX6_lay_20 : decode cX6_lay 20 = .ok (.bipush (-2), 2) := by decide +kernel
theorem dX6_lay_22 : decode cX6_lay 22 = .ok (.ireturn, 1) := by decide +kernel
theorem dX6_lay_23 : decode cX6_lay 23 = .ok (.aload_n 0, 1) := by decide +kernel
theorem dX6_lay_24 : decode cX6_lay 24 = .ok (.aload_n 0, 1) := by decide +kernel
theorem dX6_lay_25 : decode cX6_lay 25 = .ok (.getfield 16, 3) := by decide +kernel
theorem dX6_lay_28 : decode cX6_lay 28 = .ok (.invokevirtual 56, 3) := by decide +kernel
theorem dX6_lay_31 : decode cX6_lay 31 = .ok (.putfield 44, 3) := by decide +kernel
theorem dX6_lay_34 : decode cX6_lay 34 = .ok (.aload_n 0, 1) := by decide +kernel
theorem dX6_lay_35 : decode cX6_lay 35 = .ok (.getfield 23, 3) := by decide +kernel
theorem dX6_lay_38 : decode cX6_lay 38 = .ok (.invokevirtual 60, 3) := by decide +kernel
theorem dX6_lay_41 : decode cX6_lay 41 = .ok (.aload_n 0, 1) := by decide +kernel
theorem dX6_lay_42 : decode cX6_lay 42 = .ok (.getfield 44, 3) := by decide +kernel
theorem dX6_lay_45 : decode cX6_lay 45 = .ok (.getfield 63, 3) := by decide +kernel
theorem dX6_lay_48 : decode cX6_lay 48 = .ok (.arraylength, 1) := by decide +kernel
theorem dX6_lay_49 : decode cX6_lay 49 = .ok (.ireturn, 1) := by decide +kernel
theorem dX6_set_0 : decode cX6_set 0 = .ok (.aload_n 0, 1) := by decide +kernel
theorem dX6_set_1 : decode cX6_set 1 = .ok (.getfield 44, 3) := by decide +kernel
theorem dX6_set_4 : decode cX6_set 4 = .ok (.iload_n 1, 1) := by decide +kernel
theorem dX6_set_5 : decode cX6_set 5 = .ok (.invokevirtual 67, 3) := by decide +kernel
theorem dX6_set_8 : decode cX6_set 8 = .ok (.astore 4, 2) := by decide +kernel
theorem dX6_set_10 : decode cX6_set 10 = .ok (.aload 4, 2) := by decide +kernel
theorem dX6_set_12 : decode cX6_set 12 = .ok (.ifnull 13, 3) := by decide +kernel
theorem dX6_set_15 : decode cX6_set 15 = .ok (.aload 4, 2) := by decide +kernel
theorem dX6_set_17 : decode cX6_set 17 = .ok (.iload_n 2, 1) := by decide +kernel
theorem dX6_set_18 : decode cX6_set 18 = .ok (.iload_n 3, 1) := by decide +kernel
theorem dX6_set_19 : decode cX6_set 19 = .ok (.invokevirtual 71, 3) := by decide +kernel
theorem dX6_set_22 : decode cX6_set 22 = .ok (.ifCond .ne 5, 3) := by decide +kernel
theorem dX6_set_25 : decode cX6_set 25 = .ok (.iconst (-1), 1) := by decide +kernel
theorem dX6_set_26 : decode cX6_set 26 = .ok (.ireturn, 1) := by decide +kernel
theorem dX6_set_27 : decode cX6_set 27 = .ok (.aload 4, 2) := by decide +kernel
theorem dX6_set_29 : decode cX6_set 29 = .ok (.iload_n 2, 1) := by decide +kernel
theorem dX6_set_30 : decode cX6_set 30 = .ok (.invokevirtual 75, 3) := by decide +kernel
theorem dX6_set_33 : decode cX6_set 33 = .ok (.istore 5, 2) := by decide +kernel
theorem dX6_set_35 : decode cX6_set 35 = .ok (.iload 5, 2) := by decide +kernel
theorem dX6_set_37 : decode cX6_set 37 = .ok (.iload_n 3, 1) := by decide +kernel
theorem dX6_set_38 : decode cX6_set 38 = .ok (.if_icmp .ne 6, 3) := by decide +kernel
theorem dX6_set_41 : decode cX6_set 41 = .ok (.bipush (-2), 2) := by decide +kernel
theorem dX6_set_43 : decode cX6_set 43 = .ok (.ireturn, 1) := by decide +kernel
theorem dX6_set_44 : decode cX6_set 44 = .ok (.aload_n 0, 1) := by decide +kernel
theorem dX6_set_45 : decode cX6_set 45 = .ok (.aload_n 0, 1) := by decide +kernel
theorem dX6_set_46 : decode cX6_set 46 = .ok (.getfield 44, 3) := by decide +kernel
theorem dX6_set_49 : decode cX6_set 49 = .ok (.iload_n 1, 1) := by decide +kernel
theorem dX6_set_50 : decode cX6_set 50 = .ok (.aload 4, 2) := by decide +kernel
theorem dX6_set_52 : decode cX6_set 52 = .ok (.iload_n 2, 1) := by decide +kernel
theorem dX6_set_53 : decode cX6_set 53 = .ok (.iload_n 3, 1) := by decide +kernel
theorem dX6_set_54 : decode cX6_set 54 = .ok (.invokevirtual 79, 3) := by decide +kernel
theorem dX6_set_57 : decode cX6_set 57 = .ok (.invokevirtual 83, 3) := by decide +kernel
theorem dX6_set_60 : decode cX6_set 60 = .ok (.invokevirtual 87, 3) := by decide +kernel
theorem dX6_set_63 : decode cX6_set 63 = .ok (.iload 5, 2) := by decide +kernel
theorem dX6_set_65 : decode cX6_set 65 = .ok (.ireturn, 1) := by decide +kernel
theorem dX6_tell_0 : decode cX6_tell 0 = .ok (.iload_n 1, 1) := by decide +kernel
theorem dX6_tell_1 : decode cX6_tell 1 = .ok (.iload_n 2, 1) := by decide +kernel
theorem dX6_tell_2 : decode cX6_tell 2 = .ok (.invokestatic 91, 3) := by decide +kernel
theorem dX6_tell_5 : decode cX6_tell 5 = .ok (.ifCond .ne 5, 3) := by decide +kernel
theorem dX6_tell_8 : decode cX6_tell 8 = .ok (.iconst (-1), 1) := by decide +kernel
theorem dX6_tell_9 : decode cX6_tell 9 = .ok (.ireturn, 1) := by decide +kernel
theorem dX6_tell_10 : decode cX6_tell 10 = .ok (.aload_n 0, 1) := by decide +kernel
theorem dX6_tell_11 : decode cX6_tell 11 = .ok (.getfield 44, 3) := by decide +kernel
theorem dX6_tell_14 : decode cX6_tell 14 = .ok (.iload_n 1, 1) := by decide +kernel
theorem dX6_tell_15 : decode cX6_tell 15 = .ok (.invokevirtual 92, 3) := by decide +kernel
theorem dX6_tell_18 : decode cX6_tell 18 = .ok (.istore_n 3, 1) := by decide +kernel
theorem dX6_tell_19 : decode cX6_tell 19 = .ok (.iload_n 3, 1) := by decide +kernel
theorem dX6_tell_20 : decode cX6_tell 20 = .ok (.iload_n 2, 1) := by decide +kernel
theorem dX6_tell_21 : decode cX6_tell 21 = .ok (.if_icmp .ne 6, 3) := by decide +kernel
theorem dX6_tell_24 : decode cX6_tell 24 = .ok (.bipush (-2), 2) := by decide +kernel
theorem dX6_tell_26 : decode cX6_tell 26 = .ok (.ireturn, 1) := by decide +kernel
theorem dX6_tell_27 : decode cX6_tell 27 = .ok (.aload_n 0, 1) := by decide +kernel
theorem dX6_tell_28 : decode cX6_tell 28 = .ok (.aload_n 0, 1) := by decide +kernel
theorem dX6_tell_29 : decode cX6_tell 29 = .ok (.getfield 44, 3) := by decide +kernel
theorem dX6_tell_32 : decode cX6_tell 32 = .ok (.iload_n 1, 1) := by decide +kernel
theorem dX6_tell_33 : decode cX6_tell 33 = .ok (.iload_n 2, 1) := by decide +kernel
theorem dX6_tell_34 : decode cX6_tell 34 = .ok (.invokevirtual 93, 3) := by decide +kernel
theorem dX6_tell_37 : decode cX6_tell 37 = .ok (.invokevirtual 87, 3) := by decide +kernel
theorem dX6_tell_40 : decode cX6_tell 40 = .ok (.iload_n 3, 1) := by decide +kernel
theorem dX6_tell_41 : decode cX6_tell 41 = .ok (.ireturn, 1) := by decide +kernel
theorem dX6_take_0 : decode cX6_take 0 = .ok (.aload_n 0, 1) := by decide +kernel
theorem dX6_take_1 : decode cX6_take 1 = .ok (.getfield 44, 3) := by decide +kernel
theorem dX6_take_4 : decode cX6_take 4 = .ok (.iload_n 1, 1) := by decide +kernel
theorem dX6_take_5 : decode cX6_take 5 = .ok (.invokevirtual 67, 3) := by decide +kernel
theorem dX6_take_8 : decode cX6_take 8 = .ok (.ifnonnull 5, 3) := by decide +kernel
theorem dX6_take_11 : decode cX6_take 11 = .ok (.iconst (-1), 1) := by decide +kernel
theorem dX6_take_12 : decode cX6_take 12 = .ok (.ireturn, 1) := by decide +kernel
theorem dX6_take_13 : decode cX6_take 13 = .ok (.aload_n 0, 1) := by decide +kernel
theorem dX6_take_14 : decode cX6_take 14 = .ok (.aload_n 0, 1) := by decide +kernel
theorem dX6_take_15 : decode cX6_take 15 = .ok (.getfield 44, 3) := by decide +kernel
theorem dX6_take_18 : decode cX6_take 18 = .ok (.iload_n 1, 1) := by decide +kernel
theorem dX6_take_19 : decode cX6_take 19 = .ok (.invokevirtual 96, 3) := by decide +kernel
theorem dX6_take_22 : decode cX6_take 22 = .ok (.invokevirtual 87, 3) := by decide +kernel
theorem dX6_take_25 : decode cX6_take 25 = .ok (.aload_n 0, 1) := by decide +kernel
theorem dX6_take_26 : decode cX6_take 26 = .ok (.getfield 44, 3) := by decide +kernel
theorem dX6_take_29 : decode cX6_take 29 = .ok (.getfield 63, 3) := by decide +kernel
theorem dX6_take_32 : decode cX6_take 32 = .ok (.arraylength, 1) := by decide +kernel
theorem dX6_take_33 : decode cX6_take 33 = .ok (.ireturn, 1) := by decide +kernel
theorem dX6_undo_0 : decode cX6_undo 0 = .ok (.aload_n 0, 1) := by decide +kernel
theorem dX6_undo_1 : decode cX6_undo 1 = .ok (.getfield 23, 3) := by decide +kernel
theorem dX6_undo_4 : decode cX6_undo 4 = .ok (.invokevirtual 100, 3) := by decide +kernel
theorem dX6_undo_7 : decode cX6_undo 7 = .ok (.astore_n 1, 1) := by decide +kernel
theorem dX6_undo_8 : decode cX6_undo 8 = .ok (.aload_n 1, 1) := by decide +kernel
theorem dX6_undo_9 : decode cX6_undo 9 = .ok (.ifnonnull 6, 3) := by decide +kernel
theorem dX6_undo_12 : decode cX6_undo 12 = .ok (.bipush (-2), 2) := by decide +kernel
theorem dX6_undo_14 : decode cX6_undo 14 = .ok (.ireturn, 1) := by decide +kernel
theorem dX6_undo_15 : decode cX6_undo 15 = .ok (.aload_n 0, 1) := by decide +kernel
theorem dX6_undo_16 : decode cX6_undo 16 = .ok (.aload_n 1, 1) := by decide +kernel
theorem dX6_undo_17 : decode cX6_undo 17 = .ok (.putfield 44, 3) := by decide +kernel
theorem dX6_undo_20 : decode cX6_undo 20 = .ok (.aload_n 0, 1) := by decide +kernel
theorem dX6_undo_21 : decode cX6_undo 21 = .ok (.getfield 23, 3) := by decide +kernel
theorem dX6_undo_24 : decode cX6_undo 24 = .ok (.getfield 103, 3) := by decide +kernel
theorem dX6_undo_27 : decode cX6_undo 27 = .ok (.ireturn, 1) := by decide +kernel
theorem dX6_change_0 : decode cX6_change 0 = .ok (.aload_n 0, 1) := by decide +kernel
theorem dX6_change_1 : decode cX6_change 1 = .ok (.getfield 23, 3) := by decide +kernel
theorem dX6_change_4 : decode cX6_change 4 = .ok (.aload_n 0, 1) := by decide +kernel
theorem dX6_change_5 : decode cX6_change 5 = .ok (.getfield 44, 3) := by decide +kernel
theorem dX6_change_8 : decode cX6_change 8 = .ok (.invokevirtual 106, 3) := by decide +kernel
theorem dX6_change_11 : decode cX6_change 11 = .ok (.aload_n 0, 1) := by decide +kernel
theorem dX6_change_12 : decode cX6_change 12 = .ok (.aload_n 1, 1) := by decide +kernel
theorem dX6_change_13 : decode cX6_change 13 = .ok (.putfield 44, 3) := by decide +kernel
theorem dX6_change_16 : decode cX6_change 16 = .ok (.return_, 1) := by decide +kernel
theorem dX6_squares_0 : decode cX6_squares 0 = .ok (.iload_n 1, 1) := by decide +kernel
theorem dX6_squares_1 : decode cX6_squares 1 = .ok (.invokestatic 109, 3) := by decide +kernel
theorem dX6_squares_4 : decode cX6_squares 4 = .ok (.ifCond .eq 10, 3) := by decide +kernel
theorem dX6_squares_7 : decode cX6_squares 7 = .ok (.iload_n 1, 1) := by decide +kernel
theorem dX6_squares_8 : decode cX6_squares 8 = .ok (.invokestatic 115, 3) := by decide +kernel
theorem dX6_squares_11 : decode cX6_squares 11 = .ok (.goto 4, 3) := by decide +kernel
theorem dX6_squares_14 : decode cX6_squares 14 = .ok (.iconst (-1), 1) := by decide +kernel
theorem dX6_squares_15 : decode cX6_squares 15 = .ok (.ireturn, 1) := by decide +kernel
theorem dX6_sign_0 : decode cX6_sign 0 = .ok (.iload_n 1, 1) := by decide +kernel
theorem dX6_sign_1 : decode cX6_sign 1 = .ok (.ifCond .lt 17, 3) := by decide +kernel
theorem dX6_sign_4 : decode cX6_sign 4 = .ok (.iload_n 1, 1) := by decide +kernel
theorem dX6_sign_5 : decode cX6_sign 5 = .ok (.sipush 999, 3) := by decide +kernel
theorem dX6_sign_8 : decode cX6_sign 8 = .ok (.if_icmp .gt 10, 3) := by decide +kernel
theorem dX6_sign_11 : decode cX6_sign 11 = .ok (.iload_n 2, 1) := by decide +kernel
theorem dX6_sign_12 : decode cX6_sign 12 = .ok (.invokestatic 109, 3) := by decide +kernel
theorem dX6_sign_15 : decode cX6_sign 15 = .ok (.ifCond .ne 5, 3) := by decide +kernel
theorem dX6_sign_18 : decode cX6_sign 18 = .ok (.iconst (-1), 1) := by decide +kernel
theorem dX6_sign_19 : decode cX6_sign 19 = .ok (.ireturn, 1) := by decide +kernel
theorem dX6_sign_20 : decode cX6_sign 20 = .ok (.iload_n 1, 1) := by decide +kernel
theorem dX6_sign_21 : decode cX6_sign 21 = .ok (.iload_n 2, 1) := by decide +kernel
theorem dX6_sign_22 : decode cX6_sign 22 = .ok (.invokestatic 118, 3) := by decide +kernel
theorem dX6_sign_25 : decode cX6_sign 25 = .ok (.iconst 1, 1) := by decide +kernel
theorem dX6_sign_26 : decode cX6_sign 26 = .ok (.iadd, 1) := by decide +kernel
theorem dX6_sign_27 : decode cX6_sign 27 = .ok (.ireturn, 1) := by decide +kernel
theorem dX6_root_0 : decode cX6_root 0 = .ok (.iload_n 1, 1) := by decide +kernel
theorem dX6_root_1 : decode cX6_root 1 = .ok (.invokestatic 109, 3) := by decide +kernel
theorem dX6_root_4 : decode cX6_root 4 = .ok (.ifCond .ne 5, 3) := by decide +kernel
theorem dX6_root_7 : decode cX6_root 7 = .ok (.iconst (-1), 1) := by decide +kernel
theorem dX6_root_8 : decode cX6_root 8 = .ok (.ireturn, 1) := by decide +kernel
theorem dX6_root_9 : decode cX6_root 9 = .ok (.iload_n 2, 1) := by decide +kernel
theorem dX6_root_10 : decode cX6_root 10 = .ok (.lookupswitch 36 #[(0, 26), (1, 31)], 26) := by decide +kernel
theorem dX6_root_36 : decode cX6_root 36 = .ok (.iload_n 1, 1) := by decide +kernel
theorem dX6_root_37 : decode cX6_root 37 = .ok (.invokestatic 122, 3) := by decide +kernel
theorem dX6_root_40 : decode cX6_root 40 = .ok (.ireturn, 1) := by decide +kernel
theorem dX6_root_41 : decode cX6_root 41 = .ok (.iload_n 1, 1) := by decide +kernel
theorem dX6_root_42 : decode cX6_root 42 = .ok (.invokestatic 125, 3) := by decide +kernel
theorem dX6_root_45 : decode cX6_root 45 = .ok (.ireturn, 1) := by decide +kernel
theorem dX6_root_46 : decode cX6_root 46 = .ok (.iconst (-1), 1) := by decide +kernel
theorem dX6_root_47 : decode cX6_root 47 = .ok (.ireturn, 1) := by decide +kernel
theorem dX6_law_0 : decode cX6_law 0 = .ok (.iload_n 1, 1) := by decide +kernel
theorem dX6_law_1 : decode cX6_law 1 = .ok (.invokestatic 109, 3) := by decide +kernel
theorem dX6_law_4 : decode cX6_law 4 = .ok (.ifCond .eq 15, 3) := by decide +kernel
theorem dX6_law_7 : decode cX6_law 7 = .ok (.iload_n 2, 1) := by decide +kernel
theorem dX6_law_8 : decode cX6_law 8 = .ok (.invokestatic 109, 3) := by decide +kernel
theorem dX6_law_11 : decode cX6_law 11 = .ok (.ifCond .eq 8, 3) := by decide +kernel
theorem dX6_law_14 : decode cX6_law 14 = .ok (.iload_n 1, 1) := by decide +kernel
theorem dX6_law_15 : decode cX6_law 15 = .ok (.iload_n 2, 1) := by decide +kernel
theorem dX6_law_16 : decode cX6_law 16 = .ok (.if_icmp .ne 5, 3) := by decide +kernel
theorem dX6_law_19 : decode cX6_law 19 = .ok (.iconst (-1), 1) := by decide +kernel
theorem dX6_law_20 : decode cX6_law 20 = .ok (.ireturn, 1) := by decide +kernel
theorem dX6_law_21 : decode cX6_law 21 = .ok (.iload_n 1, 1) := by decide +kernel
theorem dX6_law_22 : decode cX6_law 22 = .ok (.iload_n 2, 1) := by decide +kernel
theorem dX6_law_23 : decode cX6_law 23 = .ok (.invokestatic 118, 3) := by decide +kernel
theorem dX6_law_26 : decode cX6_law 26 = .ok (.iload_n 2, 1) := by decide +kernel
theorem dX6_law_27 : decode cX6_law 27 = .ok (.iload_n 1, 1) := by decide +kernel
theorem dX6_law_28 : decode cX6_law 28 = .ok (.invokestatic 118, 3) := by decide +kernel
theorem dX6_law_31 : decode cX6_law 31 = .ok (.imul, 1) := by decide +kernel
theorem dX6_law_32 : decode cX6_law 32 = .ok (.iconst 1, 1) := by decide +kernel
theorem dX6_law_33 : decode cX6_law 33 = .ok (.iadd, 1) := by decide +kernel
theorem dX6_law_34 : decode cX6_law 34 = .ok (.ireturn, 1) := by decide +kernel
theorem dX6_panel_0 : decode cX6_panel 0 = .ok (.aload_n 0, 1) := by decide +kernel
theorem dX6_panel_1 : decode cX6_panel 1 = .ok (.getfield 44, 3) := by decide +kernel
theorem dX6_panel_4 : decode cX6_panel 4 = .ok (.iload_n 1, 1) := by decide +kernel
theorem dX6_panel_5 : decode cX6_panel 5 = .ok (.invokevirtual 67, 3) := by decide +kernel
theorem dX6_panel_8 : decode cX6_panel 8 = .ok (.astore_n 3, 1) := by decide +kernel
theorem dX6_panel_9 : decode cX6_panel 9 = .ok (.aload_n 3, 1) := by decide +kernel
theorem dX6_panel_10 : decode cX6_panel 10 = .ok (.ifnonnull 5, 3) := by decide +kernel
theorem dX6_panel_13 : decode cX6_panel 13 = .ok (.iconst (-1), 1) := by decide +kernel
theorem dX6_panel_14 : decode cX6_panel 14 = .ok (.ireturn, 1) := by decide +kernel
theorem dX6_panel_15 : decode cX6_panel 15 = .ok (.iload_n 2, 1) := by decide +kernel
theorem dX6_panel_16 : decode cX6_panel 16 = .ok (.tableswitch 123 0 10 #[60, 65, 70, 75, 80, 85, 90, 95, 100, 105, 118], 60) := by decide +kernel
theorem dX6_panel_76 : decode cX6_panel 76 = .ok (.aload_n 3, 1) := by decide +kernel
theorem dX6_panel_77 : decode cX6_panel 77 = .ok (.getfield 128, 3) := by decide +kernel
theorem dX6_panel_80 : decode cX6_panel 80 = .ok (.ireturn, 1) := by decide +kernel
theorem dX6_panel_81 : decode cX6_panel 81 = .ok (.aload_n 3, 1) := by decide +kernel
theorem dX6_panel_82 : decode cX6_panel 82 = .ok (.getfield 131, 3) := by decide +kernel
theorem dX6_panel_85 : decode cX6_panel 85 = .ok (.ireturn, 1) := by decide +kernel
theorem dX6_panel_86 : decode cX6_panel 86 = .ok (.aload_n 3, 1) := by decide +kernel
theorem dX6_panel_87 : decode cX6_panel 87 = .ok (.getfield 134, 3) := by decide +kernel
theorem dX6_panel_90 : decode cX6_panel 90 = .ok (.ireturn, 1) := by decide +kernel
theorem dX6_panel_91 : decode cX6_panel 91 = .ok (.aload_n 3, 1) := by decide +kernel
theorem dX6_panel_92 : decode cX6_panel 92 = .ok (.getfield 137, 3) := by decide +kernel
theorem dX6_panel_95 : decode cX6_panel 95 = .ok (.ireturn, 1) := by decide +kernel
theorem dX6_panel_96 : decode cX6_panel 96 = .ok (.aload_n 3, 1) := by decide +kernel
theorem dX6_panel_97 : decode cX6_panel 97 = .ok (.getfield 140, 3) := by decide +kernel
theorem dX6_panel_100 : decode cX6_panel 100 = .ok (.ireturn, 1) := by decide +kernel
theorem dX6_panel_101 : decode cX6_panel 101 = .ok (.aload_n 3, 1) := by decide +kernel
theorem dX6_panel_102 : decode cX6_panel 102 = .ok (.getfield 143, 3) := by decide +kernel
theorem dX6_panel_105 : decode cX6_panel 105 = .ok (.ireturn, 1) := by decide +kernel
theorem dX6_panel_106 : decode cX6_panel 106 = .ok (.aload_n 3, 1) := by decide +kernel
theorem dX6_panel_107 : decode cX6_panel 107 = .ok (.invokevirtual 146, 3) := by decide +kernel
theorem dX6_panel_110 : decode cX6_panel 110 = .ok (.ireturn, 1) := by decide +kernel
theorem dX6_panel_111 : decode cX6_panel 111 = .ok (.aload_n 3, 1) := by decide +kernel
theorem dX6_panel_112 : decode cX6_panel 112 = .ok (.invokevirtual 150, 3) := by decide +kernel
theorem dX6_panel_115 : decode cX6_panel 115 = .ok (.ireturn, 1) := by decide +kernel
theorem dX6_panel_116 : decode cX6_panel 116 = .ok (.aload_n 3, 1) := by decide +kernel
theorem dX6_panel_117 : decode cX6_panel 117 = .ok (.invokevirtual 153, 3) := by decide +kernel
theorem dX6_panel_120 : decode cX6_panel 120 = .ok (.ireturn, 1) := by decide +kernel
theorem dX6_panel_121 : decode cX6_panel 121 = .ok (.aload_n 3, 1) := by decide +kernel
theorem dX6_panel_122 : decode cX6_panel 122 = .ok (.invokevirtual 156, 3) := by decide +kernel
theorem dX6_panel_125 : decode cX6_panel 125 = .ok (.ifCond .eq 7, 3) := by decide +kernel
theorem dX6_panel_128 : decode cX6_panel 128 = .ok (.iconst 1, 1) := by decide +kernel
theorem dX6_panel_129 : decode cX6_panel 129 = .ok (.goto 4, 3) := by decide +kernel
theorem dX6_panel_132 : decode cX6_panel 132 = .ok (.iconst 0, 1) := by decide +kernel
theorem dX6_panel_133 : decode cX6_panel 133 = .ok (.ireturn, 1) := by decide +kernel
theorem dX6_panel_134 : decode cX6_panel 134 = .ok (.aload_n 3, 1) := by decide +kernel
theorem dX6_panel_135 : decode cX6_panel 135 = .ok (.invokevirtual 160, 3) := by decide +kernel
theorem dX6_panel_138 : decode cX6_panel 138 = .ok (.ireturn, 1) := by decide +kernel
theorem dX6_panel_139 : decode cX6_panel 139 = .ok (.iconst (-1), 1) := by decide +kernel
theorem dX6_panel_140 : decode cX6_panel 140 = .ok (.ireturn, 1) := by decide +kernel
theorem dX6_well_0 : decode cX6_well 0 = .ok (.aload_n 0, 1) := by decide +kernel
theorem dX6_well_1 : decode cX6_well 1 = .ok (.getfield 44, 3) := by decide +kernel
theorem dX6_well_4 : decode cX6_well 4 = .ok (.iload_n 1, 1) := by decide +kernel
theorem dX6_well_5 : decode cX6_well 5 = .ok (.invokevirtual 67, 3) := by decide +kernel
theorem dX6_well_8 : decode cX6_well 8 = .ok (.astore_n 3, 1) := by decide +kernel
theorem dX6_well_9 : decode cX6_well 9 = .ok (.aload_n 3, 1) := by decide +kernel
theorem dX6_well_10 : decode cX6_well 10 = .ok (.ifnull 11, 3) := by decide +kernel
theorem dX6_well_13 : decode cX6_well 13 = .ok (.aload_n 3, 1) := by decide +kernel
theorem dX6_well_14 : decode cX6_well 14 = .ok (.iload_n 2, 1) := by decide +kernel
theorem dX6_well_15 : decode cX6_well 15 = .ok (.invokevirtual 163, 3) := by decide +kernel
theorem dX6_well_18 : decode cX6_well 18 = .ok (.ifCond .ne 5, 3) := by decide +kernel
theorem dX6_well_21 : decode cX6_well 21 = .ok (.iconst (-1), 1) := by decide +kernel
theorem dX6_well_22 : decode cX6_well 22 = .ok (.ireturn, 1) := by decide +kernel
theorem dX6_well_23 : decode cX6_well 23 = .ok (.aload_n 3, 1) := by decide +kernel
theorem dX6_well_24 : decode cX6_well 24 = .ok (.iload_n 2, 1) := by decide +kernel
theorem dX6_well_25 : decode cX6_well 25 = .ok (.invokevirtual 166, 3) := by decide +kernel
theorem dX6_well_28 : decode cX6_well 28 = .ok (.ireturn, 1) := by decide +kernel
theorem dX6_counts_0 : decode cX6_counts 0 = .ok (.aload_n 0, 1) := by decide +kernel
theorem dX6_counts_1 : decode cX6_counts 1 = .ok (.getfield 44, 3) := by decide +kernel
theorem dX6_counts_4 : decode cX6_counts 4 = .ok (.iload_n 1, 1) := by decide +kernel
theorem dX6_counts_5 : decode cX6_counts 5 = .ok (.invokevirtual 67, 3) := by decide +kernel
theorem dX6_counts_8 : decode cX6_counts 8 = .ok (.astore 4, 2) := by decide +kernel
theorem dX6_counts_10 : decode cX6_counts 10 = .ok (.aload 4, 2) := by decide +kernel
theorem dX6_counts_12 : decode cX6_counts 12 = .ok (.ifnull 25, 3) := by decide +kernel
theorem dX6_counts_15 : decode cX6_counts 15 = .ok (.iload_n 2, 1) := by decide +kernel
theorem dX6_counts_16 : decode cX6_counts 16 = .ok (.ifCond .lt 21, 3) := by decide +kernel
theorem dX6_counts_19 : decode cX6_counts 19 = .ok (.iload_n 2, 1) := by decide +kernel
theorem dX6_counts_20 : decode cX6_counts 20 = .ok (.aload 4, 2) := by decide +kernel
theorem dX6_counts_22 : decode cX6_counts 22 = .ok (.getfield 143, 3) := by decide +kernel
theorem dX6_counts_25 : decode cX6_counts 25 = .ok (.if_icmp .ge 12, 3) := by decide +kernel
theorem dX6_counts_28 : decode cX6_counts 28 = .ok (.aload 4, 2) := by decide +kernel
theorem dX6_counts_30 : decode cX6_counts 30 = .ok (.iload_n 3, 1) := by decide +kernel
theorem dX6_counts_31 : decode cX6_counts 31 = .ok (.invokevirtual 169, 3) := by decide +kernel
theorem dX6_counts_34 : decode cX6_counts 34 = .ok (.ifCond .ne 5, 3) := by decide +kernel
theorem dX6_counts_37 : decode cX6_counts 37 = .ok (.iconst (-1), 1) := by decide +kernel
theorem dX6_counts_38 : decode cX6_counts 38 = .ok (.ireturn, 1) := by decide +kernel
theorem dX6_counts_39 : decode cX6_counts 39 = .ok (.aload 4, 2) := by decide +kernel
theorem dX6_counts_41 : decode cX6_counts 41 = .ok (.iload_n 2, 1) := by decide +kernel
theorem dX6_counts_42 : decode cX6_counts 42 = .ok (.iload_n 3, 1) := by decide +kernel
theorem dX6_counts_43 : decode cX6_counts 43 = .ok (.invokevirtual 172, 3) := by decide +kernel
theorem dX6_counts_46 : decode cX6_counts 46 = .ok (.ireturn, 1) := by decide +kernel
theorem dX6_plane_0 : decode cX6_plane 0 = .ok (.aload_n 0, 1) := by decide +kernel
theorem dX6_plane_1 : decode cX6_plane 1 = .ok (.getfield 44, 3) := by decide +kernel
theorem dX6_plane_4 : decode cX6_plane 4 = .ok (.iload_n 1, 1) := by decide +kernel
theorem dX6_plane_5 : decode cX6_plane 5 = .ok (.invokevirtual 67, 3) := by decide +kernel
theorem dX6_plane_8 : decode cX6_plane 8 = .ok (.astore 4, 2) := by decide +kernel
theorem dX6_plane_10 : decode cX6_plane 10 = .ok (.aload 4, 2) := by decide +kernel
theorem dX6_plane_12 : decode cX6_plane 12 = .ok (.ifnull 21, 3) := by decide +kernel
theorem dX6_plane_15 : decode cX6_plane 15 = .ok (.aload 4, 2) := by decide +kernel
theorem dX6_plane_17 : decode cX6_plane 17 = .ok (.iload_n 2, 1) := by decide +kernel
theorem dX6_plane_18 : decode cX6_plane 18 = .ok (.invokevirtual 169, 3) := by decide +kernel
theorem dX6_plane_21 : decode cX6_plane 21 = .ok (.ifCond .eq 12, 3) := by decide +kernel
theorem dX6_plane_24 : decode cX6_plane 24 = .ok (.aload 4, 2) := by decide +kernel
theorem dX6_plane_26 : decode cX6_plane 26 = .ok (.iload_n 3, 1) := by decide +kernel
theorem dX6_plane_27 : decode cX6_plane 27 = .ok (.invokevirtual 169, 3) := by decide +kernel
theorem dX6_plane_30 : decode cX6_plane 30 = .ok (.ifCond .ne 5, 3) := by decide +kernel
theorem dX6_plane_33 : decode cX6_plane 33 = .ok (.iconst (-1), 1) := by decide +kernel
theorem dX6_plane_34 : decode cX6_plane 34 = .ok (.ireturn, 1) := by decide +kernel
theorem dX6_plane_35 : decode cX6_plane 35 = .ok (.aload 4, 2) := by decide +kernel
theorem dX6_plane_37 : decode cX6_plane 37 = .ok (.iload_n 2, 1) := by decide +kernel
theorem dX6_plane_38 : decode cX6_plane 38 = .ok (.iload_n 3, 1) := by decide +kernel
theorem dX6_plane_39 : decode cX6_plane 39 = .ok (.invokevirtual 175, 3) := by decide +kernel
theorem dX6_plane_42 : decode cX6_plane 42 = .ok (.ireturn, 1) := by decide +kernel
theorem dX6_planes_0 : decode cX6_planes 0 = .ok (.aload_n 0, 1) := by decide +kernel
theorem dX6_planes_1 : decode cX6_planes 1 = .ok (.getfield 44, 3) := by decide +kernel
theorem dX6_planes_4 : decode cX6_planes 4 = .ok (.iload_n 1, 1) := by decide +kernel
theorem dX6_planes_5 : decode cX6_planes 5 = .ok (.invokevirtual 67, 3) := by decide +kernel
theorem dX6_planes_8 : decode cX6_planes 8 = .ok (.astore_n 3, 1) := by decide +kernel
theorem dX6_planes_9 : decode cX6_planes 9 = .ok (.aload_n 3, 1) := by decide +kernel
theorem dX6_planes_10 : decode cX6_planes 10 = .ok (.ifnull 11, 3) := by decide +kernel
theorem dX6_planes_13 : decode cX6_planes 13 = .ok (.aload_n 3, 1) := by decide +kernel
theorem dX6_planes_14 : decode cX6_planes 14 = .ok (.iload_n 2, 1) := by decide +kernel
theorem dX6_planes_15 : decode cX6_planes 15 = .ok (.invokevirtual 169, 3) := by decide +kernel
theorem dX6_planes_18 : decode cX6_planes 18 = .ok (.ifCond .ne 5, 3) := by decide +kernel
theorem dX6_planes_21 : decode cX6_planes 21 = .ok (.iconst (-1), 1) := by decide +kernel
theorem dX6_planes_22 : decode cX6_planes 22 = .ok (.ireturn, 1) := by decide +kernel
theorem dX6_planes_23 : decode cX6_planes 23 = .ok (.aload_n 3, 1) := by decide +kernel
theorem dX6_planes_24 : decode cX6_planes 24 = .ok (.iload_n 2, 1) := by decide +kernel
theorem dX6_planes_25 : decode cX6_planes 25 = .ok (.invokevirtual 178, 3) := by decide +kernel
theorem dX6_planes_28 : decode cX6_planes 28 = .ok (.ireturn, 1) := by decide +kernel
theorem dX6_cut_0 : decode cX6_cut 0 = .ok (.iload_n 1, 1) := by decide +kernel
theorem dX6_cut_1 : decode cX6_cut 1 = .ok (.ifCond .lt 8, 3) := by decide +kernel
theorem dX6_cut_4 : decode cX6_cut 4 = .ok (.iload_n 1, 1) := by decide +kernel
theorem dX6_cut_5 : decode cX6_cut 5 = .ok (.iconst 4, 1) := by decide +kernel
theorem dX6_cut_6 : decode cX6_cut 6 = .ok (.if_icmp .le 5, 3) := by decide +kernel
theorem dX6_cut_9 : decode cX6_cut 9 = .ok (.iconst (-1), 1) := by decide +kernel
theorem dX6_cut_10 : decode cX6_cut 10 = .ok (.ireturn, 1) := by decide +kernel
theorem dX6_cut_11 : decode cX6_cut 11 = .ok (.aload_n 0, 1) := by decide +kernel
theorem dX6_cut_12 : decode cX6_cut 12 = .ok (.getfield 30, 3) := by decide +kernel
theorem dX6_cut_15 : decode cX6_cut 15 = .ok (.aload_n 0, 1) := by decide +kernel
theorem dX6_cut_16 : decode cX6_cut 16 = .ok (.getfield 44, 3) := by decide +kernel
theorem dX6_cut_19 : decode cX6_cut 19 = .ok (.invokevirtual 181, 3) := by decide +kernel
theorem dX6_cut_22 : decode cX6_cut 22 = .ok (.iload_n 1, 1) := by decide +kernel
theorem dX6_cut_23 : decode cX6_cut 23 = .ok (.tableswitch 71 0 3 #[29, 37, 45, 53], 29) := by decide +kernel
theorem dX6_cut_52 : decode cX6_cut 52 = .ok (.aload_n 0, 1) := by decide +kernel
theorem dX6_cut_53 : decode cX6_cut 53 = .ok (.getfield 30, 3) := by decide +kernel
theorem dX6_cut_56 : decode cX6_cut 56 = .ok (.getfield 184, 3) := by decide +kernel
theorem dX6_cut_59 : decode cX6_cut 59 = .ok (.ireturn, 1) := by decide +kernel
theorem dX6_cut_60 : decode cX6_cut 60 = .ok (.aload_n 0, 1) := by decide +kernel
theorem dX6_cut_61 : decode cX6_cut 61 = .ok (.getfield 30, 3) := by decide +kernel
theorem dX6_cut_64 : decode cX6_cut 64 = .ok (.getfield 187, 3) := by decide +kernel
theorem dX6_cut_67 : decode cX6_cut 67 = .ok (.ireturn, 1) := by decide +kernel
theorem dX6_cut_68 : decode cX6_cut 68 = .ok (.aload_n 0, 1) := by decide +kernel
theorem dX6_cut_69 : decode cX6_cut 69 = .ok (.getfield 30, 3) := by decide +kernel
theorem dX6_cut_72 : decode cX6_cut 72 = .ok (.getfield 190, 3) := by decide +kernel
theorem dX6_cut_75 : decode cX6_cut 75 = .ok (.ireturn, 1) := by decide +kernel
theorem dX6_cut_76 : decode cX6_cut 76 = .ok (.aload_n 0, 1) := by decide +kernel
theorem dX6_cut_77 : decode cX6_cut 77 = .ok (.getfield 30, 3) := by decide +kernel
theorem dX6_cut_80 : decode cX6_cut 80 = .ok (.getfield 193, 3) := by decide +kernel
theorem dX6_cut_83 : decode cX6_cut 83 = .ok (.aload_n 0, 1) := by decide +kernel
theorem dX6_cut_84 : decode cX6_cut 84 = .ok (.getfield 44, 3) := by decide +kernel
theorem dX6_cut_87 : decode cX6_cut 87 = .ok (.getfield 196, 3) := by decide +kernel
theorem dX6_cut_90 : decode cX6_cut 90 = .ok (.invokestatic 199, 3) := by decide +kernel
theorem dX6_cut_93 : decode cX6_cut 93 = .ok (.ireturn, 1) := by decide +kernel
theorem dX6_cut_94 : decode cX6_cut 94 = .ok (.aload_n 0, 1) := by decide +kernel
theorem dX6_cut_95 : decode cX6_cut 95 = .ok (.getfield 30, 3) := by decide +kernel
theorem dX6_cut_98 : decode cX6_cut 98 = .ok (.getfield 184, 3) := by decide +kernel
theorem dX6_cut_101 : decode cX6_cut 101 = .ok (.aload_n 0, 1) := by decide +kernel
theorem dX6_cut_102 : decode cX6_cut 102 = .ok (.getfield 44, 3) := by decide +kernel
theorem dX6_cut_105 : decode cX6_cut 105 = .ok (.getfield 196, 3) := by decide +kernel
theorem dX6_cut_108 : decode cX6_cut 108 = .ok (.imul, 1) := by decide +kernel
theorem dX6_cut_109 : decode cX6_cut 109 = .ok (.aload_n 0, 1) := by decide +kernel
theorem dX6_cut_110 : decode cX6_cut 110 = .ok (.getfield 30, 3) := by decide +kernel
theorem dX6_cut_113 : decode cX6_cut 113 = .ok (.getfield 193, 3) := by decide +kernel
theorem dX6_cut_116 : decode cX6_cut 116 = .ok (.isub, 1) := by decide +kernel
theorem dX6_cut_117 : decode cX6_cut 117 = .ok (.ireturn, 1) := by decide +kernel
theorem dX6_board_0 : decode cX6_board 0 = .ok (.iload_n 1, 1) := by decide +kernel
theorem dX6_board_1 : decode cX6_board 1 = .ok (.ifCond .lt 12, 3) := by decide +kernel
theorem dX6_board_4 : decode cX6_board 4 = .ok (.iload_n 2, 1) := by decide +kernel
theorem dX6_board_5 : decode cX6_board 5 = .ok (.ifCond .lt 8, 3) := by decide +kernel
theorem dX6_board_8 : decode cX6_board 8 = .ok (.iload_n 2, 1) := by decide +kernel
theorem dX6_board_9 : decode cX6_board 9 = .ok (.iconst 2, 1) := by decide +kernel
theorem dX6_board_10 : decode cX6_board 10 = .ok (.if_icmp .le 5, 3) := by decide +kernel
theorem dX6_board_13 : decode cX6_board 13 = .ok (.iconst (-1), 1) := by decide +kernel
theorem dX6_board_14 : decode cX6_board 14 = .ok (.ireturn, 1) := by decide +kernel
theorem dX6_board_15 : decode cX6_board 15 = .ok (.aload_n 0, 1) := by decide +kernel
theorem dX6_board_16 : decode cX6_board 16 = .ok (.getfield 30, 3) := by decide +kernel
theorem dX6_board_19 : decode cX6_board 19 = .ok (.aload_n 0, 1) := by decide +kernel
theorem dX6_board_20 : decode cX6_board 20 = .ok (.getfield 44, 3) := by decide +kernel
theorem dX6_board_23 : decode cX6_board 23 = .ok (.invokevirtual 181, 3) := by decide +kernel
theorem dX6_board_26 : decode cX6_board 26 = .ok (.iload_n 1, 1) := by decide +kernel
theorem dX6_board_27 : decode cX6_board 27 = .ok (.aload_n 0, 1) := by decide +kernel
theorem dX6_board_28 : decode cX6_board 28 = .ok (.getfield 30, 3) := by decide +kernel
theorem dX6_board_31 : decode cX6_board 31 = .ok (.getfield 184, 3) := by decide +kernel
theorem dX6_board_34 : decode cX6_board 34 = .ok (.if_icmp .ge 10, 3) := by decide +kernel
theorem dX6_board_37 : decode cX6_board 37 = .ok (.iload_n 1, 1) := by decide +kernel
theorem dX6_board_38 : decode cX6_board 38 = .ok (.sipush 160, 3) := by decide +kernel
theorem dX6_board_41 : decode cX6_board 41 = .ok (.if_icmp .lt 5, 3) := by decide +kernel
theorem dX6_board_44 : decode cX6_board 44 = .ok (.iconst (-1), 1) := by decide +kernel
theorem dX6_board_45 : decode cX6_board 45 = .ok (.ireturn, 1) := by decide +kernel
theorem dX6_board_46 : decode cX6_board 46 = .ok (.iload_n 2, 1) := by decide +kernel
theorem dX6_board_47 : decode cX6_board 47 = .ok (.lookupswitch 44 #[(0, 25), (1, 35)], 25) := by decide +kernel
theorem dX6_board_72 : decode cX6_board 72 = .ok (.aload_n 0, 1) := by decide +kernel
theorem dX6_board_73 : decode cX6_board 73 = .ok (.getfield 30, 3) := by decide +kernel
theorem dX6_board_76 : decode cX6_board 76 = .ok (.getfield 202, 3) := by decide +kernel
theorem dX6_board_79 : decode cX6_board 79 = .ok (.iload_n 1, 1) := by decide +kernel
theorem dX6_board_80 : decode cX6_board 80 = .ok (.iaload, 1) := by decide +kernel
theorem dX6_board_81 : decode cX6_board 81 = .ok (.ireturn, 1) := by decide +kernel
theorem dX6_board_82 : decode cX6_board 82 = .ok (.aload_n 0, 1) := by decide +kernel
theorem dX6_board_83 : decode cX6_board 83 = .ok (.getfield 30, 3) := by decide +kernel
theorem dX6_board_86 : decode cX6_board 86 = .ok (.iload_n 1, 1) := by decide +kernel
theorem dX6_board_87 : decode cX6_board 87 = .ok (.invokevirtual 206, 3) := by decide +kernel
theorem dX6_board_90 : decode cX6_board 90 = .ok (.ireturn, 1) := by decide +kernel
theorem dX6_board_91 : decode cX6_board 91 = .ok (.aload_n 0, 1) := by decide +kernel
theorem dX6_board_92 : decode cX6_board 92 = .ok (.getfield 30, 3) := by decide +kernel
theorem dX6_board_95 : decode cX6_board 95 = .ok (.getfield 209, 3) := by decide +kernel
theorem dX6_board_98 : decode cX6_board 98 = .ok (.iload_n 1, 1) := by decide +kernel
theorem dX6_board_99 : decode cX6_board 99 = .ok (.iaload, 1) := by decide +kernel
theorem dX6_board_100 : decode cX6_board 100 = .ok (.ireturn, 1) := by decide +kernel
theorem dX6_where_0 : decode cX6_where 0 = .ok (.aload_n 0, 1) := by decide +kernel
theorem dX6_where_1 : decode cX6_where 1 = .ok (.getfield 44, 3) := by decide +kernel
theorem dX6_where_4 : decode cX6_where 4 = .ok (.iload_n 1, 1) := by decide +kernel
theorem dX6_where_5 : decode cX6_where 5 = .ok (.invokevirtual 67, 3) := by decide +kernel
theorem dX6_where_8 : decode cX6_where 8 = .ok (.astore_n 3, 1) := by decide +kernel
theorem dX6_where_9 : decode cX6_where 9 = .ok (.aload_n 3, 1) := by decide +kernel
theorem dX6_where_10 : decode cX6_where 10 = .ok (.ifnull 11, 3) := by decide +kernel
theorem dX6_where_13 : decode cX6_where 13 = .ok (.aload_n 3, 1) := by decide +kernel
theorem dX6_where_14 : decode cX6_where 14 = .ok (.iload_n 2, 1) := by decide +kernel
theorem dX6_where_15 : decode cX6_where 15 = .ok (.invokevirtual 163, 3) := by decide +kernel
theorem dX6_where_18 : decode cX6_where 18 = .ok (.ifCond .ne 5, 3) := by decide +kernel
theorem dX6_where_21 : decode cX6_where 21 = .ok (.iconst (-1), 1) := by decide +kernel
theorem dX6_where_22 : decode cX6_where 22 = .ok (.ireturn, 1) := by decide +kernel
theorem dX6_where_23 : decode cX6_where 23 = .ok (.aload_n 0, 1) := by decide +kernel
theorem dX6_where_24 : decode cX6_where 24 = .ok (.getfield 30, 3) := by decide +kernel
theorem dX6_where_27 : decode cX6_where 27 = .ok (.aload_n 0, 1) := by decide +kernel
theorem dX6_where_28 : decode cX6_where 28 = .ok (.getfield 44, 3) := by decide +kernel
theorem dX6_where_31 : decode cX6_where 31 = .ok (.invokevirtual 181, 3) := by decide +kernel
theorem dX6_where_34 : decode cX6_where 34 = .ok (.aload_n 0, 1) := by decide +kernel
theorem dX6_where_35 : decode cX6_where 35 = .ok (.getfield 30, 3) := by decide +kernel
theorem dX6_where_38 : decode cX6_where 38 = .ok (.aload_n 0, 1) := by decide +kernel
theorem dX6_where_39 : decode cX6_where 39 = .ok (.getfield 44, 3) := by decide +kernel
theorem dX6_where_42 : decode cX6_where 42 = .ok (.iload_n 1, 1) := by decide +kernel
theorem dX6_where_43 : decode cX6_where 43 = .ok (.invokevirtual 212, 3) := by decide +kernel
theorem dX6_where_46 : decode cX6_where 46 = .ok (.iload_n 2, 1) := by decide +kernel
theorem dX6_where_47 : decode cX6_where 47 = .ok (.iadd, 1) := by decide +kernel
theorem dX6_where_48 : decode cX6_where 48 = .ok (.invokevirtual 215, 3) := by decide +kernel
theorem dX6_where_51 : decode cX6_where 51 = .ok (.ireturn, 1) := by decide +kernel
theorem dX6_best_0 : decode cX6_best 0 = .ok (.aload_n 0, 1) := by decide +kernel
theorem dX6_best_1 : decode cX6_best 1 = .ok (.getfield 44, 3) := by decide +kernel
theorem dX6_best_4 : decode cX6_best 4 = .ok (.iload_n 1, 1) := by decide +kernel
theorem dX6_best_5 : decode cX6_best 5 = .ok (.invokevirtual 67, 3) := by decide +kernel
theorem dX6_best_8 : decode cX6_best 8 = .ok (.astore_n 3, 1) := by decide +kernel
theorem dX6_best_9 : decode cX6_best 9 = .ok (.aload_n 3, 1) := by decide +kernel
theorem dX6_best_10 : decode cX6_best 10 = .ok (.ifnull 12, 3) := by decide +kernel
theorem dX6_best_13 : decode cX6_best 13 = .ok (.iload_n 2, 1) := by decide +kernel
theorem dX6_best_14 : decode cX6_best 14 = .ok (.ifCond .lt 8, 3) := by decide +kernel
theorem dX6_best_17 : decode cX6_best 17 = .ok (.iload_n 2, 1) := by decide +kernel
theorem dX6_best_18 : decode cX6_best 18 = .ok (.iconst 1, 1) := by decide +kernel
theorem dX6_best_19 : decode cX6_best 19 = .ok (.if_icmp .le 5, 3) := by decide +kernel
theorem dX6_best_22 : decode cX6_best 22 = .ok (.iconst (-1), 1) := by decide +kernel
theorem dX6_best_23 : decode cX6_best 23 = .ok (.ireturn, 1) := by decide +kernel
theorem dX6_best_24 : decode cX6_best 24 = .ok (.iconst 0, 1) := by decide +kernel
theorem dX6_best_25 : decode cX6_best 25 = .ok (.istore 4, 2) := by decide +kernel
theorem dX6_best_27 : decode cX6_best 27 = .ok (.iconst 0, 1) := by decide +kernel
theorem dX6_best_28 : decode cX6_best 28 = .ok (.istore 5, 2) := by decide +kernel
theorem dX6_best_30 : decode cX6_best 30 = .ok (.iconst 0, 1) := by decide +kernel
theorem dX6_best_31 : decode cX6_best 31 = .ok (.istore 6, 2) := by decide +kernel
theorem dX6_best_33 : decode cX6_best 33 = .ok (.iconst 0, 1) := by decide +kernel
theorem dX6_best_34 : decode cX6_best 34 = .ok (.istore 7, 2) := by decide +kernel
theorem dX6_best_36 : decode cX6_best 36 = .ok (.iconst 0, 1) := by decide +kernel
theorem dX6_best_37 : decode cX6_best 37 = .ok (.istore 8, 2) := by decide +kernel
theorem dX6_best_39 : decode cX6_best 39 = .ok (.iload 8, 2) := by decide +kernel
theorem dX6_best_41 : decode cX6_best 41 = .ok (.aload_n 3, 1) := by decide +kernel
theorem dX6_best_42 : decode cX6_best 42 = .ok (.getfield 131, 3) := by decide +kernel
theorem dX6_best_45 : decode cX6_best 45 = .ok (.if_icmp .ge 75, 3) := by decide +kernel
theorem dX6_best_48 : decode cX6_best 48 = .ok (.aload_n 0, 1) := by decide +kernel
theorem dX6_best_49 : decode cX6_best 49 = .ok (.getfield 30, 3) := by decide +kernel
theorem dX6_best_52 : decode cX6_best 52 = .ok (.aload_n 0, 1) := by decide +kernel
theorem dX6_best_53 : decode cX6_best 53 = .ok (.getfield 44, 3) := by decide +kernel
theorem dX6_best_56 : decode cX6_best 56 = .ok (.iload_n 1, 1) := by decide +kernel
theorem dX6_best_57 : decode cX6_best 57 = .ok (.iload 8, 2) := by decide +kernel
theorem dX6_best_59 : decode cX6_best 59 = .ok (.invokevirtual 218, 3) := by decide +kernel
theorem dX6_best_62 : decode cX6_best 62 = .ok (.iload 8, 2) := by decide +kernel
theorem dX6_best_64 : decode cX6_best 64 = .ok (.ifCond .eq 19, 3) := by decide +kernel
theorem dX6_best_67 : decode cX6_best 67 = .ok (.aload_n 0, 1) := by decide +kernel
theorem dX6_best_68 : decode cX6_best 68 = .ok (.getfield 30, 3) := by decide +kernel
theorem dX6_best_71 : decode cX6_best 71 = .ok (.iload 5, 2) := by decide +kernel
theorem dX6_best_73 : decode cX6_best 73 = .ok (.iload 6, 2) := by decide +kernel
theorem dX6_best_75 : decode cX6_best 75 = .ok (.iload 7, 2) := by decide +kernel
theorem dX6_best_77 : decode cX6_best 77 = .ok (.invokevirtual 222, 3) := by decide +kernel
theorem dX6_best_80 : decode cX6_best 80 = .ok (.ifCond .eq 34, 3) := by decide +kernel
theorem dX6_best_83 : decode cX6_best 83 = .ok (.iload 8, 2) := by decide +kernel
theorem dX6_best_85 : decode cX6_best 85 = .ok (.istore 4, 2) := by decide +kernel
theorem dX6_best_87 : decode cX6_best 87 = .ok (.aload_n 0, 1) := by decide +kernel
theorem dX6_best_88 : decode cX6_best 88 = .ok (.getfield 30, 3) := by decide +kernel
theorem dX6_best_91 : decode cX6_best 91 = .ok (.getfield 190, 3) := by decide +kernel
theorem dX6_best_94 : decode cX6_best 94 = .ok (.istore 5, 2) := by decide +kernel
theorem dX6_best_96 : decode cX6_best 96 = .ok (.aload_n 0, 1) := by decide +kernel
theorem dX6_best_97 : decode cX6_best 97 = .ok (.getfield 30, 3) := by decide +kernel
theorem dX6_best_100 : decode cX6_best 100 = .ok (.getfield 184, 3) := by decide +kernel
theorem dX6_best_103 : decode cX6_best 103 = .ok (.istore 6, 2) := by decide +kernel
theorem dX6_best_105 : decode cX6_best 105 = .ok (.aload_n 0, 1) := by decide +kernel
theorem dX6_best_106 : decode cX6_best 106 = .ok (.getfield 30, 3) := by decide +kernel
theorem dX6_best_109 : decode cX6_best 109 = .ok (.invokevirtual 226, 3) := by decide +kernel
theorem dX6_best_112 : decode cX6_best 112 = .ok (.istore 7, 2) := by decide +kernel
theorem dX6_best_114 : decode cX6_best 114 = .ok (.iinc 8 1, 3) := by decide +kernel
theorem dX6_best_117 : decode cX6_best 117 = .ok (.goto (-78), 3) := by decide +kernel
theorem dX6_best_120 : decode cX6_best 120 = .ok (.iload_n 2, 1) := by decide +kernel
theorem dX6_best_121 : decode cX6_best 121 = .ok (.ifCond .ne 8, 3) := by decide +kernel
theorem dX6_best_124 : decode cX6_best 124 = .ok (.iload 4, 2) := by decide +kernel
theorem dX6_best_126 : decode cX6_best 126 = .ok (.goto 5, 3) := by decide +kernel
theorem dX6_best_129 : decode cX6_best 129 = .ok (.iload 6, 2) := by decide +kernel
theorem dX6_best_131 : decode cX6_best 131 = .ok (.ireturn, 1) := by decide +kernel
theorem dX6_count_0 : decode cX6_count 0 = .ok (.iload_n 1, 1) := by decide +kernel
theorem dX6_count_1 : decode cX6_count 1 = .ok (.tableswitch 98 0 6 #[43, 52, 60, 68, 76, 84, 89], 43) := by decide +kernel
theorem dX6_count_44 : decode cX6_count 44 = .ok (.aload_n 0, 1) := by decide +kernel
theorem dX6_count_45 : decode cX6_count 45 = .ok (.getfield 44, 3) := by decide +kernel
theorem dX6_count_48 : decode cX6_count 48 = .ok (.getfield 63, 3) := by decide +kernel
theorem dX6_count_51 : decode cX6_count 51 = .ok (.arraylength, 1) := by decide +kernel
theorem dX6_count_52 : decode cX6_count 52 = .ok (.ireturn, 1) := by decide +kernel
theorem dX6_count_53 : decode cX6_count 53 = .ok (.aload_n 0, 1) := by decide +kernel
theorem dX6_count_54 : decode cX6_count 54 = .ok (.getfield 44, 3) := by decide +kernel
theorem dX6_count_57 : decode cX6_count 57 = .ok (.getfield 229, 3) := by decide +kernel
theorem dX6_count_60 : decode cX6_count 60 = .ok (.ireturn, 1) := by decide +kernel
theorem dX6_count_61 : decode cX6_count 61 = .ok (.aload_n 0, 1) := by decide +kernel
theorem dX6_count_62 : decode cX6_count 62 = .ok (.getfield 44, 3) := by decide +kernel
theorem dX6_count_65 : decode cX6_count 65 = .ok (.getfield 196, 3) := by decide +kernel
theorem dX6_count_68 : decode cX6_count 68 = .ok (.ireturn, 1) := by decide +kernel
theorem dX6_count_69 : decode cX6_count 69 = .ok (.aload_n 0, 1) := by decide +kernel
theorem dX6_count_70 : decode cX6_count 70 = .ok (.getfield 44, 3) := by decide +kernel
theorem dX6_count_73 : decode cX6_count 73 = .ok (.getfield 232, 3) := by decide +kernel
theorem dX6_count_76 : decode cX6_count 76 = .ok (.ireturn, 1) := by decide +kernel
theorem dX6_count_77 : decode cX6_count 77 = .ok (.aload_n 0, 1) := by decide +kernel
theorem dX6_count_78 : decode cX6_count 78 = .ok (.getfield 23, 3) := by decide +kernel
theorem dX6_count_81 : decode cX6_count 81 = .ok (.getfield 103, 3) := by decide +kernel
theorem dX6_count_84 : decode cX6_count 84 = .ok (.ireturn, 1) := by decide +kernel
theorem dX6_count_85 : decode cX6_count 85 = .ok (.aload_n 0, 1) := by decide +kernel
theorem dX6_count_86 : decode cX6_count 86 = .ok (.getfield 48, 3) := by decide +kernel
theorem dX6_count_89 : decode cX6_count 89 = .ok (.ireturn, 1) := by decide +kernel
theorem dX6_count_90 : decode cX6_count 90 = .ok (.aload_n 0, 1) := by decide +kernel
theorem dX6_count_91 : decode cX6_count 91 = .ok (.getfield 44, 3) := by decide +kernel
theorem dX6_count_94 : decode cX6_count 94 = .ok (.iconst 4, 1) := by decide +kernel
theorem dX6_count_95 : decode cX6_count 95 = .ok (.invokevirtual 212, 3) := by decide +kernel
theorem dX6_count_98 : decode cX6_count 98 = .ok (.ireturn, 1) := by decide +kernel
theorem dX6_count_99 : decode cX6_count 99 = .ok (.iconst (-1), 1) := by decide +kernel
theorem dX6_count_100 : decode cX6_count 100 = .ok (.ireturn, 1) := by decide +kernel
