theorem dX7_sumOf_0 : decode cX7_sumOf 0 = .ok (.aload_n 0, 1) := by decide +kernel
theorem dX7_sumOf_1 : decode cX7_sumOf 1 = .ok (.getfield 13, 3) := by decide +kernel
theorem dX7_sumOf_4 : decode cX7_sumOf 4 = .ok (.iconst 5, 1) := by decide +kernel
theorem dX7_sumOf_5 : decode cX7_sumOf 5 = .ok (.iload_n 1, 1) := by decide +kernel
theorem dX7_sumOf_6 : decode cX7_sumOf 6 = .ok (.imul, 1) := by decide +kernel
theorem dX7_sumOf_7 : decode cX7_sumOf 7 = .ok (.iconst 4, 1) := by decide +kernel
theorem dX7_sumOf_8 : decode cX7_sumOf 8 = .ok (.iadd, 1) := by decide +kernel
theorem dX7_sumOf_9 : decode cX7_sumOf 9 = .ok (.iaload, 1) := by decide +kernel
theorem dX7_sumOf_10 : decode cX7_sumOf 10 = .ok (.istore_n 3, 1) := by decide +kernel
theorem dX7_sumOf_11 : decode cX7_sumOf 11 = .ok (.iconst 0, 1) := by decide +kernel
theorem dX7_sumOf_12 : decode cX7_sumOf 12 = .ok (.istore 4, 2) := by decide +kernel
theorem dX7_sumOf_14 : decode cX7_sumOf 14 = .ok (.iconst 0, 1) := by decide +kernel
theorem dX7_sumOf_15 : decode cX7_sumOf 15 = .ok (.istore 5, 2) := by decide +kernel
theorem dX7_sumOf_17 : decode cX7_sumOf 17 = .ok (.iconst 0, 1) := by decide +kernel
theorem dX7_sumOf_18 : decode cX7_sumOf 18 = .ok (.istore 6, 2) := by decide +kernel
theorem dX7_sumOf_20 : decode cX7_sumOf 20 = .ok (.iconst 1, 1) := by decide +kernel
theorem dX7_sumOf_21 : decode cX7_sumOf 21 = .ok (.istore 7, 2) := by decide +kernel
theorem dX7_sumOf_23 : decode cX7_sumOf 23 = .ok (.iconst 0, 1) := by decide +kernel
theorem dX7_sumOf_24 : decode cX7_sumOf 24 = .ok (.istore 8, 2) := by decide +kernel
theorem dX7_sumOf_26 : decode cX7_sumOf 26 = .ok (.iload 8, 2) := by decide +kernel
theorem dX7_sumOf_28 : decode cX7_sumOf 28 = .ok (.iload_n 3, 1) := by decide +kernel
theorem dX7_sumOf_29 : decode cX7_sumOf 29 = .ok (.if_icmp .ge 78, 3) := by decide +kernel
theorem dX7_sumOf_32 : decode cX7_sumOf 32 = .ok (.aload_n 0, 1) := by decide +kernel
theorem dX7_sumOf_33 : decode cX7_sumOf 33 = .ok (.iload_n 1, 1) := by decide +kernel
theorem dX7_sumOf_34 : decode cX7_sumOf 34 = .ok (.iload 8, 2) := by decide +kernel
theorem dX7_sumOf_36 : decode cX7_sumOf 36 = .ok (.invokevirtual 126, 3) := by decide +kernel
theorem dX7_sumOf_39 : decode cX7_sumOf 39 = .ok (.istore 9, 2) := by decide +kernel
theorem dX7_sumOf_41 : decode cX7_sumOf 41 = .ok (.iload 9, 2) := by decide +kernel
theorem dX7_sumOf_43 : decode cX7_sumOf 43 = .ok (.iload 4, 2) := by decide +kernel
theorem dX7_sumOf_45 : decode cX7_sumOf 45 = .ok (.if_icmp .le 8, 3) := by decide +kernel
theorem dX7_sumOf_48 : decode cX7_sumOf 48 = .ok (.iload 9, 2) := by decide +kernel
theorem dX7_sumOf_50 : decode cX7_sumOf 50 = .ok (.goto 5, 3) := by decide +kernel
theorem dX7_sumOf_53 : decode cX7_sumOf 53 = .ok (.iload 4, 2) := by decide +kernel
theorem dX7_sumOf_55 : decode cX7_sumOf 55 = .ok (.istore 4, 2) := by decide +kernel
theorem dX7_sumOf_57 : decode cX7_sumOf 57 = .ok (.iload 5, 2) := by decide +kernel
theorem dX7_sumOf_59 : decode cX7_sumOf 59 = .ok (.iload 9, 2) := by decide +kernel
theorem dX7_sumOf_61 : decode cX7_sumOf 61 = .ok (.iadd, 1) := by decide +kernel
theorem dX7_sumOf_62 : decode cX7_sumOf 62 = .ok (.istore 5, 2) := by decide +kernel
theorem dX7_sumOf_64 : decode cX7_sumOf 64 = .ok (.iload 6, 2) := by decide +kernel
theorem dX7_sumOf_66 : decode cX7_sumOf 66 = .ok (.iconst 1, 1) := by decide +kernel
theorem dX7_sumOf_67 : decode cX7_sumOf 67 = .ok (.iload 9, 2) := by decide +kernel
theorem dX7_sumOf_69 : decode cX7_sumOf 69 = .ok (.ishl, 1) := by decide +kernel
theorem dX7_sumOf_70 : decode cX7_sumOf 70 = .ok (.ior, 1) := by decide +kernel
theorem dX7_sumOf_71 : decode cX7_sumOf 71 = .ok (.istore 6, 2) := by decide +kernel
theorem dX7_sumOf_73 : decode cX7_sumOf 73 = .ok (.iload 7, 2) := by decide +kernel
theorem dX7_sumOf_75 : decode cX7_sumOf 75 = .ok (.ifCond .eq 23, 3) := by decide +kernel
theorem dX7_sumOf_78 : decode cX7_sumOf 78 = .ok (.iload 9, 2) := by decide +kernel
theorem dX7_sumOf_80 : decode cX7_sumOf 80 = .ok (.aload_n 0, 1) := by decide +kernel
theorem dX7_sumOf_81 : decode cX7_sumOf 81 = .ok (.iload_n 1, 1) := by decide +kernel
theorem dX7_sumOf_82 : decode cX7_sumOf 82 = .ok (.iload_n 3, 1) := by decide +kernel
theorem dX7_sumOf_83 : decode cX7_sumOf 83 = .ok (.iconst 1, 1) := by decide +kernel
theorem dX7_sumOf_84 : decode cX7_sumOf 84 = .ok (.isub, 1) := by decide +kernel
theorem dX7_sumOf_85 : decode cX7_sumOf 85 = .ok (.iload 8, 2) := by decide +kernel
theorem dX7_sumOf_87 : decode cX7_sumOf 87 = .ok (.isub, 1) := by decide +kernel
theorem dX7_sumOf_88 : decode cX7_sumOf 88 = .ok (.invokevirtual 126, 3) := by decide +kernel
theorem dX7_sumOf_91 : decode cX7_sumOf 91 = .ok (.if_icmp .ne 7, 3) := by decide +kernel
theorem dX7_sumOf_94 : decode cX7_sumOf 94 = .ok (.iconst 1, 1) := by decide +kernel
theorem dX7_sumOf_95 : decode cX7_sumOf 95 = .ok (.goto 4, 3) := by decide +kernel
theorem dX7_sumOf_98 : decode cX7_sumOf 98 = .ok (.iconst 0, 1) := by decide +kernel
theorem dX7_sumOf_99 : decode cX7_sumOf 99 = .ok (.istore 7, 2) := by decide +kernel
theorem dX7_sumOf_101 : decode cX7_sumOf 101 = .ok (.iinc 8 1, 3) := by decide +kernel
theorem dX7_sumOf_104 : decode cX7_sumOf 104 = .ok (.goto (-78), 3) := by decide +kernel
theorem dX7_sumOf_107 : decode cX7_sumOf 107 = .ok (.iconst 0, 1) := by decide +kernel
theorem dX7_sumOf_108 : decode cX7_sumOf 108 = .ok (.istore 8, 2) := by decide +kernel
theorem dX7_sumOf_110 : decode cX7_sumOf 110 = .ok (.iconst 0, 1) := by decide +kernel
theorem dX7_sumOf_111 : decode cX7_sumOf 111 = .ok (.istore 9, 2) := by decide +kernel
theorem dX7_sumOf_113 : decode cX7_sumOf 113 = .ok (.iload 9, 2) := by decide +kernel
theorem dX7_sumOf_115 : decode cX7_sumOf 115 = .ok (.bipush 31, 2) := by decide +kernel
theorem dX7_sumOf_117 : decode cX7_sumOf 117 = .ok (.if_icmp .ge 21, 3) := by decide +kernel
theorem dX7_sumOf_120 : decode cX7_sumOf 120 = .ok (.iload 8, 2) := by decide +kernel
theorem dX7_sumOf_122 : decode cX7_sumOf 122 = .ok (.iload 6, 2) := by decide +kernel
theorem dX7_sumOf_124 : decode cX7_sumOf 124 = .ok (.iload 9, 2) := by decide +kernel
theorem dX7_sumOf_126 : decode cX7_sumOf 126 = .ok (.ishr, 1) := by decide +kernel
theorem dX7_sumOf_127 : decode cX7_sumOf 127 = .ok (.iconst 1, 1) := by decide +kernel
theorem dX7_sumOf_128 : decode cX7_sumOf 128 = .ok (.iand, 1) := by decide +kernel
theorem dX7_sumOf_129 : decode cX7_sumOf 129 = .ok (.iadd, 1) := by decide +kernel
theorem dX7_sumOf_130 : decode cX7_sumOf 130 = .ok (.istore 8, 2) := by decide +kernel
theorem dX7_sumOf_132 : decode cX7_sumOf 132 = .ok (.iinc 9 1, 3) := by decide +kernel
theorem dX7_sumOf_135 : decode cX7_sumOf 135 = .ok (.goto (-22), 3) := by decide +kernel
theorem dX7_sumOf_138 : decode cX7_sumOf 138 = .ok (.iload_n 2, 1) := by decide +kernel
theorem dX7_sumOf_139 : decode cX7_sumOf 139 = .ok (.bipush 6, 2) := by decide +kernel
theorem dX7_sumOf_141 : decode cX7_sumOf 141 = .ok (.if_icmp .ne 8, 3) := by decide +kernel
theorem dX7_sumOf_144 : decode cX7_sumOf 144 = .ok (.iload 4, 2) := by decide +kernel
theorem dX7_sumOf_146 : decode cX7_sumOf 146 = .ok (.goto 35, 3) := by decide +kernel
theorem dX7_sumOf_149 : decode cX7_sumOf 149 = .ok (.iload_n 2, 1) := by decide +kernel
theorem dX7_sumOf_150 : decode cX7_sumOf 150 = .ok (.bipush 7, 2) := by decide +kernel
theorem dX7_sumOf_152 : decode cX7_sumOf 152 = .ok (.if_icmp .ne 8, 3) := by decide +kernel
theorem dX7_sumOf_155 : decode cX7_sumOf 155 = .ok (.iload 5, 2) := by decide +kernel
theorem dX7_sumOf_157 : decode cX7_sumOf 157 = .ok (.goto 24, 3) := by decide +kernel
theorem dX7_sumOf_160 : decode cX7_sumOf 160 = .ok (.iload_n 2, 1) := by decide +kernel
theorem dX7_sumOf_161 : decode cX7_sumOf 161 = .ok (.bipush 8, 2) := by decide +kernel
theorem dX7_sumOf_163 : decode cX7_sumOf 163 = .ok (.if_icmp .ne 8, 3) := by decide +kernel
theorem dX7_sumOf_166 : decode cX7_sumOf 166 = .ok (.iload 8, 2) := by decide +kernel
theorem dX7_sumOf_168 : decode cX7_sumOf 168 = .ok (.goto 13, 3) := by decide +kernel
theorem dX7_sumOf_171 : decode cX7_sumOf 171 = .ok (.iload 7, 2) := by decide +kernel
theorem dX7_sumOf_173 : decode cX7_sumOf 173 = .ok (.ifCond .eq 7, 3) := by decide +kernel
theorem dX7_sumOf_176 : decode cX7_sumOf 176 = .ok (.iconst 1, 1) := by decide +kernel
theorem dX7_sumOf_177 : decode cX7_sumOf 177 = .ok (.goto 4, 3) := by decide +kernel
theorem dX7_sumOf_180 : decode cX7_sumOf 180 = .ok (.iconst 0, 1) := by decide +kernel
theorem dX7_sumOf_181 : decode cX7_sumOf 181 = .ok (.ireturn, 1) := by decide +kernel
theorem dX7_panel_0 : decode cX7_panel 0 = .ok (.aload_n 0, 1) := by decide +kernel
theorem dX7_panel_1 : decode cX7_panel 1 = .ok (.iload_n 1, 1) := by decide +kernel
theorem dX7_panel_2 : decode cX7_panel 2 = .ok (.invokevirtual 106, 3) := by decide +kernel
theorem dX7_panel_5 : decode cX7_panel 5 = .ok (.ifCond .eq 15, 3) := by decide +kernel
theorem dX7_panel_8 : decode cX7_panel 8 = .ok (.iload_n 2, 1) := by decide +kernel
theorem dX7_panel_9 : decode cX7_panel 9 = .ok (.i2l, 1) := by decide +kernel
theorem dX7_panel_10 : decode cX7_panel 10 = .ok (.lconst 0, 1) := by decide +kernel
theorem dX7_panel_11 : decode cX7_panel 11 = .ok (.ldc2_w 133, 3) := by decide +kernel
theorem dX7_panel_14 : decode cX7_panel 14 = .ok (.invokestatic 43, 3) := by decide +kernel
theorem dX7_panel_17 : decode cX7_panel 17 = .ok (.ifCond .ne 5, 3) := by decide +kernel
theorem dX7_panel_20 : decode cX7_panel 20 = .ok (.iconst (-1), 1) := by decide +kernel
theorem dX7_panel_21 : decode cX7_panel 21 = .ok (.ireturn, 1) := by decide +kernel
theorem dX7_panel_22 : decode cX7_panel 22 = .ok (.iload_n 2, 1) := by decide +kernel
theorem dX7_panel_23 : decode cX7_panel 23 = .ok (.iconst 5, 1) := by decide +kernel
theorem dX7_panel_24 : decode cX7_panel 24 = .ok (.if_icmp .ge 16, 3) := by decide +kernel
theorem dX7_panel_27 : decode cX7_panel 27 = .ok (.aload_n 0, 1) := by decide +kernel
theorem dX7_panel_28 : decode cX7_panel 28 = .ok (.getfield 13, 3) := by decide +kernel
theorem dX7_panel_31 : decode cX7_panel 31 = .ok (.iconst 5, 1) := by decide +kernel
theorem dX7_panel_32 : decode cX7_panel 32 = .ok (.iload_n 1, 1) := by decide +kernel
theorem dX7_panel_33 : decode cX7_panel 33 = .ok (.imul, 1) := by decide +kernel
theorem dX7_panel_34 : decode cX7_panel 34 = .ok (.iload_n 2, 1) := by decide +kernel
theorem dX7_panel_35 : decode cX7_panel 35 = .ok (.iadd, 1) := by decide +kernel
theorem dX7_panel_36 : decode cX7_panel 36 = .ok (.iaload, 1) := by decide +kernel
theorem dX7_panel_37 : decode cX7_panel 37 = .ok (.goto 36, 3) := by decide +kernel
theorem dX7_panel_40 : decode cX7_panel 40 = .ok (.iload_n 2, 1) := by decide +kernel
theorem dX7_panel_41 : decode cX7_panel 41 = .ok (.iconst 5, 1) := by decide +kernel
theorem dX7_panel_42 : decode cX7_panel 42 = .ok (.if_icmp .ne 11, 3) := by decide +kernel
theorem dX7_panel_45 : decode cX7_panel 45 = .ok (.aload_n 0, 1) := by decide +kernel
theorem dX7_panel_46 : decode cX7_panel 46 = .ok (.iload_n 1, 1) := by decide +kernel
theorem dX7_panel_47 : decode cX7_panel 47 = .ok (.invokevirtual 120, 3) := by decide +kernel
theorem dX7_panel_50 : decode cX7_panel 50 = .ok (.goto 23, 3) := by decide +kernel
theorem dX7_panel_53 : decode cX7_panel 53 = .ok (.iload_n 2, 1) := by decide +kernel
theorem dX7_panel_54 : decode cX7_panel 54 = .ok (.bipush 10, 2) := by decide +kernel
theorem dX7_panel_56 : decode cX7_panel 56 = .ok (.if_icmp .ge 12, 3) := by decide +kernel
theorem dX7_panel_59 : decode cX7_panel 59 = .ok (.aload_n 0, 1) := by decide +kernel
theorem dX7_panel_60 : decode cX7_panel 60 = .ok (.iload_n 1, 1) := by decide +kernel
theorem dX7_panel_61 : decode cX7_panel 61 = .ok (.iload_n 2, 1) := by decide +kernel
theorem dX7_panel_62 : decode cX7_panel 62 = .ok (.invokevirtual 135, 3) := by decide +kernel
theorem dX7_panel_65 : decode cX7_panel 65 = .ok (.goto 8, 3) := by decide +kernel
theorem dX7_panel_68 : decode cX7_panel 68 = .ok (.aload_n 0, 1) := by decide +kernel
theorem dX7_panel_69 : decode cX7_panel 69 = .ok (.iload_n 1, 1) := by decide +kernel
theorem dX7_panel_70 : decode cX7_panel 70 = .ok (.invokevirtual 138, 3) := by decide +kernel
theorem dX7_panel_73 : decode cX7_panel 73 = .ok (.ireturn, 1) := by decide +kernel
theorem dX7_planeOf_0 : decode cX7_planeOf 0 = .ok (.aload_n 0, 1) := by decide +kernel
theorem dX7_planeOf_1 : decode cX7_planeOf 1 = .ok (.iload_n 1, 1) := by decide +kernel
theorem dX7_planeOf_2 : decode cX7_planeOf 2 = .ok (.iload_n 2, 1) := by decide +kernel
theorem dX7_planeOf_3 : decode cX7_planeOf 3 = .ok (.invokevirtual 123, 3) := by decide +kernel
theorem dX7_planeOf_6 : decode cX7_planeOf 6 = .ok (.aload_n 0, 1) := by decide +kernel
theorem dX7_planeOf_7 : decode cX7_planeOf 7 = .ok (.iload_n 1, 1) := by decide +kernel
theorem dX7_planeOf_8 : decode cX7_planeOf 8 = .ok (.iload_n 3, 1) := by decide +kernel
theorem dX7_planeOf_9 : decode cX7_planeOf 9 = .ok (.invokevirtual 123, 3) := by decide +kernel
theorem dX7_planeOf_12 : decode cX7_planeOf 12 = .ok (.iadd, 1) := by decide +kernel
theorem dX7_planeOf_13 : decode cX7_planeOf 13 = .ok (.aload_n 0, 1) := by decide +kernel
theorem dX7_planeOf_14 : decode cX7_planeOf 14 = .ok (.getfield 13, 3) := by decide +kernel
theorem dX7_planeOf_17 : decode cX7_planeOf 17 = .ok (.iconst 5, 1) := by decide +kernel
theorem dX7_planeOf_18 : decode cX7_planeOf 18 = .ok (.iload_n 1, 1) := by decide +kernel
theorem dX7_planeOf_19 : decode cX7_planeOf 19 = .ok (.imul, 1) := by decide +kernel
theorem dX7_planeOf_20 : decode cX7_planeOf 20 = .ok (.iconst 1, 1) := by decide +kernel
theorem dX7_planeOf_21 : decode cX7_planeOf 21 = .ok (.iadd, 1) := by decide +kernel
theorem dX7_planeOf_22 : decode cX7_planeOf 22 = .ok (.iaload, 1) := by decide +kernel
theorem dX7_planeOf_23 : decode cX7_planeOf 23 = .ok (.irem, 1) := by decide +kernel
theorem dX7_planeOf_24 : decode cX7_planeOf 24 = .ok (.ireturn, 1) := by decide +kernel
theorem dX7_plane_0 : decode cX7_plane 0 = .ok (.aload_n 0, 1) := by decide +kernel
theorem dX7_plane_1 : decode cX7_plane 1 = .ok (.iload_n 1, 1) := by decide +kernel
theorem dX7_plane_2 : decode cX7_plane 2 = .ok (.invokevirtual 106, 3) := by decide +kernel
theorem dX7_plane_5 : decode cX7_plane 5 = .ok (.ifCond .eq 47, 3) := by decide +kernel
theorem dX7_plane_8 : decode cX7_plane 8 = .ok (.iload_n 2, 1) := by decide +kernel
theorem dX7_plane_9 : decode cX7_plane 9 = .ok (.i2l, 1) := by decide +kernel
theorem dX7_plane_10 : decode cX7_plane 10 = .ok (.lconst 0, 1) := by decide +kernel
theorem dX7_plane_11 : decode cX7_plane 11 = .ok (.aload_n 0, 1) := by decide +kernel
theorem dX7_plane_12 : decode cX7_plane 12 = .ok (.getfield 13, 3) := by decide +kernel
theorem dX7_plane_15 : decode cX7_plane 15 = .ok (.iconst 5, 1) := by decide +kernel
theorem dX7_plane_16 : decode cX7_plane 16 = .ok (.iload_n 1, 1) := by decide +kernel
theorem dX7_plane_17 : decode cX7_plane 17 = .ok (.imul, 1) := by decide +kernel
theorem dX7_plane_18 : decode cX7_plane 18 = .ok (.iconst 1, 1) := by decide +kernel
theorem dX7_plane_19 : decode cX7_plane 19 = .ok (.iadd, 1) := by decide +kernel
theorem dX7_plane_20 : decode cX7_plane 20 = .ok (.iaload, 1) := by decide +kernel
theorem dX7_plane_21 : decode cX7_plane 21 = .ok (.iconst 1, 1) := by decide +kernel
theorem dX7_plane_22 : decode cX7_plane 22 = .ok (.isub, 1) := by decide +kernel
theorem dX7_plane_23 : decode cX7_plane 23 = .ok (.i2l, 1) := by decide +kernel
theorem dX7_plane_24 : decode cX7_plane 24 = .ok (.invokestatic 43, 3) := by decide +kernel
theorem dX7_plane_27 : decode cX7_plane 27 = .ok (.ifCond .eq 25, 3) := by decide +kernel
theorem dX7_plane_30 : decode cX7_plane 30 = .ok (.iload_n 3, 1) := by decide +kernel
theorem dX7_plane_31 : decode cX7_plane 31 = .ok (.i2l, 1) := by decide +kernel
theorem dX7_plane_32 : decode cX7_plane 32 = .ok (.lconst 0, 1) := by decide +kernel
theorem dX7_plane_33 : decode cX7_plane 33 = .ok (.aload_n 0, 1) := by decide +kernel
theorem dX7_plane_34 : decode cX7_plane 34 = .ok (.getfield 13, 3) := by decide +kernel
theorem dX7_plane_37 : decode cX7_plane 37 = .ok (.iconst 5, 1) := by decide +kernel
theorem dX7_plane_38 : decode cX7_plane 38 = .ok (.iload_n 1, 1) := by decide +kernel
theorem dX7_plane_39 : decode cX7_plane 39 = .ok (.imul, 1) := by decide +kernel
theorem dX7_plane_40 : decode cX7_plane 40 = .ok (.iconst 1, 1) := by decide +kernel
theorem dX7_plane_41 : decode cX7_plane 41 = .ok (.iadd, 1) := by decide +kernel
theorem dX7_plane_42 : decode cX7_plane 42 = .ok (.iaload, 1) := by decide +kernel
theorem dX7_plane_43 : decode cX7_plane 43 = .ok (.iconst 1, 1) := by decide +kernel
theorem dX7_plane_44 : decode cX7_plane 44 = .ok (.isub, 1) := by decide +kernel
theorem dX7_plane_45 : decode cX7_plane 45 = .ok (.i2l, 1) := by decide +kernel
theorem dX7_plane_46 : decode cX7_plane 46 = .ok (.invokestatic 43, 3) := by decide +kernel
theorem dX7_plane_49 : decode cX7_plane 49 = .ok (.ifCond .ne 5, 3) := by decide +kernel
theorem dX7_plane_52 : decode cX7_plane 52 = .ok (.iconst (-1), 1) := by decide +kernel
theorem dX7_plane_53 : decode cX7_plane 53 = .ok (.ireturn, 1) := by decide +kernel
theorem dX7_plane_54 : decode cX7_plane 54 = .ok (.aload_n 0, 1) := by decide +kernel
theorem dX7_plane_55 : decode cX7_plane 55 = .ok (.iload_n 1, 1) := by decide +kernel
theorem dX7_plane_56 : decode cX7_plane 56 = .ok (.iload_n 2, 1) := by decide +kernel
theorem dX7_plane_57 : decode cX7_plane 57 = .ok (.iload_n 3, 1) := by decide +kernel
theorem dX7_plane_58 : decode cX7_plane 58 = .ok (.invokevirtual 141, 3) := by decide +kernel
theorem dX7_plane_61 : decode cX7_plane 61 = .ok (.ireturn, 1) := by decide +kernel
theorem dX7_planes_0 : decode cX7_planes 0 = .ok (.aload_n 0, 1) := by decide +kernel
theorem dX7_planes_1 : decode cX7_planes 1 = .ok (.iload_n 1, 1) := by decide +kernel
theorem dX7_planes_2 : decode cX7_planes 2 = .ok (.invokevirtual 106, 3) := by decide +kernel
theorem dX7_planes_5 : decode cX7_planes 5 = .ok (.ifCond .eq 25, 3) := by decide +kernel
theorem dX7_planes_8 : decode cX7_planes 8 = .ok (.iload_n 2, 1) := by decide +kernel
theorem dX7_planes_9 : decode cX7_planes 9 = .ok (.i2l, 1) := by decide +kernel
theorem dX7_planes_10 : decode cX7_planes 10 = .ok (.lconst 0, 1) := by decide +kernel
theorem dX7_planes_11 : decode cX7_planes 11 = .ok (.aload_n 0, 1) := by decide +kernel
theorem dX7_planes_12 : decode cX7_planes 12 = .ok (.getfield 13, 3) := by decide +kernel
theorem dX7_planes_15 : decode cX7_planes 15 = .ok (.iconst 5, 1) := by decide +kernel
theorem dX7_planes_16 : decode cX7_planes 16 = .ok (.iload_n 1, 1) := by decide +kernel
theorem dX7_planes_17 : decode cX7_planes 17 = .ok (.imul, 1) := by decide +kernel
theorem dX7_planes_18 : decode cX7_planes 18 = .ok (.iconst 1, 1) := by decide +kernel
theorem dX7_planes_19 : decode cX7_planes 19 = .ok (.iadd, 1) := by decide +kernel
theorem dX7_planes_20 : decode cX7_planes 20 = .ok (.iaload, 1) := by decide +kernel
theorem dX7_planes_21 : decode cX7_planes 21 = .ok (.iconst 1, 1) := by decide +kernel
theorem dX7_planes_22 : decode cX7_planes 22 = .ok (.isub, 1) := by decide +kernel
theorem dX7_planes_23 : decode cX7_planes 23 = .ok (.i2l, 1) := by decide +kernel
theorem dX7_planes_24 : decode cX7_planes 24 = .ok (.invokestatic 43, 3) := by decide +kernel
theorem dX7_planes_27 : decode cX7_planes 27 = .ok (.ifCond .ne 5, 3) := by decide +kernel
theorem dX7_planes_30 : decode cX7_planes 30 = .ok (.iconst (-1), 1) := by decide +kernel
theorem dX7_planes_31 : decode cX7_planes 31 = .ok (.ireturn, 1) := by decide +kernel
theorem dX7_planes_32 : decode cX7_planes 32 = .ok (.aload_n 0, 1) := by decide +kernel
theorem dX7_planes_33 : decode cX7_planes 33 = .ok (.getfield 13, 3) := by decide +kernel
theorem dX7_planes_36 : decode cX7_planes 36 = .ok (.iconst 5, 1) := by decide +kernel
theorem dX7_planes_37 : decode cX7_planes 37 = .ok (.iload_n 1, 1) := by decide +kernel
theorem dX7_planes_38 : decode cX7_planes 38 = .ok (.imul, 1) := by decide +kernel
theorem dX7_planes_39 : decode cX7_planes 39 = .ok (.iconst 1, 1) := by decide +kernel
theorem dX7_planes_40 : decode cX7_planes 40 = .ok (.iadd, 1) := by decide +kernel
theorem dX7_planes_41 : decode cX7_planes 41 = .ok (.iaload, 1) := by decide +kernel
theorem dX7_planes_42 : decode cX7_planes 42 = .ok (.istore_n 3, 1) := by decide +kernel
theorem dX7_planes_43 : decode cX7_planes 43 = .ok (.iconst 0, 1) := by decide +kernel
theorem dX7_planes_44 : decode cX7_planes 44 = .ok (.istore 4, 2) := by decide +kernel
theorem dX7_planes_46 : decode cX7_planes 46 = .ok (.iconst 0, 1) := by decide +kernel
theorem dX7_planes_47 : decode cX7_planes 47 = .ok (.istore 5, 2) := by decide +kernel
theorem dX7_planes_49 : decode cX7_planes 49 = .ok (.iload 5, 2) := by decide +kernel
theorem dX7_planes_51 : decode cX7_planes 51 = .ok (.iload_n 3, 1) := by decide +kernel
theorem dX7_planes_52 : decode cX7_planes 52 = .ok (.iload_n 3, 1) := by decide +kernel
theorem dX7_planes_53 : decode cX7_planes 53 = .ok (.imul, 1) := by decide +kernel
theorem dX7_planes_54 : decode cX7_planes 54 = .ok (.if_icmp .ge 36, 3) := by decide +kernel
theorem dX7_planes_57 : decode cX7_planes 57 = .ok (.iload 4, 2) := by decide +kernel
theorem dX7_planes_59 : decode cX7_planes 59 = .ok (.aload_n 0, 1) := by decide +kernel
theorem dX7_planes_60 : decode cX7_planes 60 = .ok (.iload_n 1, 1) := by decide +kernel
theorem dX7_planes_61 : decode cX7_planes 61 = .ok (.iload 5, 2) := by decide +kernel
theorem dX7_planes_63 : decode cX7_planes 63 = .ok (.iload_n 3, 1) := by decide +kernel
theorem dX7_planes_64 : decode cX7_planes 64 = .ok (.irem, 1) := by decide +kernel
theorem dX7_planes_65 : decode cX7_planes 65 = .ok (.iload 5, 2) := by decide +kernel
theorem dX7_planes_67 : decode cX7_planes 67 = .ok (.iload_n 3, 1) := by decide +kernel
theorem dX7_planes_68 : decode cX7_planes 68 = .ok (.idiv, 1) := by decide +kernel
theorem dX7_planes_69 : decode cX7_planes 69 = .ok (.invokevirtual 141, 3) := by decide +kernel
theorem dX7_planes_72 : decode cX7_planes 72 = .ok (.iload_n 2, 1) := by decide +kernel
theorem dX7_planes_73 : decode cX7_planes 73 = .ok (.if_icmp .ne 7, 3) := by decide +kernel
theorem dX7_planes_76 : decode cX7_planes 76 = .ok (.iconst 1, 1) := by decide +kernel
theorem dX7_planes_77 : decode cX7_planes 77 = .ok (.goto 4, 3) := by decide +kernel
theorem dX7_planes_80 : decode cX7_planes 80 = .ok (.iconst 0, 1) := by decide +kernel
theorem dX7_planes_81 : decode cX7_planes 81 = .ok (.iadd, 1) := by decide +kernel
theorem dX7_planes_82 : decode cX7_planes 82 = .ok (.istore 4, 2) := by decide +kernel
theorem dX7_planes_84 : decode cX7_planes 84 = .ok (.iinc 5 1, 3) := by decide +kernel
theorem dX7_planes_87 : decode cX7_planes 87 = .ok (.goto (-38), 3) := by decide +kernel
theorem dX7_planes_90 : decode cX7_planes 90 = .ok (.iload 4, 2) := by decide +kernel
theorem dX7_planes_92 : decode cX7_planes 92 = .ok (.ireturn, 1) := by decide +kernel
theorem dX7_cuts_0 : decode cX7_cuts 0 = .ok (.iconst 0, 1) := by decide +kernel
theorem dX7_cuts_1 : decode cX7_cuts 1 = .ok (.istore_n 3, 1) := by decide +kernel
theorem dX7_cuts_2 : decode cX7_cuts 2 = .ok (.iload_n 3, 1) := by decide +kernel
theorem dX7_cuts_3 : decode cX7_cuts 3 = .ok (.aload_n 0, 1) := by decide +kernel
theorem dX7_cuts_4 : decode cX7_cuts 4 = .ok (.getfield 144, 3) := by decide +kernel
theorem dX7_cuts_7 : decode cX7_cuts 7 = .ok (.if_icmp .ge 42, 3) := by decide +kernel
theorem dX7_cuts_10 : decode cX7_cuts 10 = .ok (.aload_n 0, 1) := by decide +kernel
theorem dX7_cuts_11 : decode cX7_cuts 11 = .ok (.getfield 25, 3) := by decide +kernel
theorem dX7_cuts_14 : decode cX7_cuts 14 = .ok (.iload_n 3, 1) := by decide +kernel
theorem dX7_cuts_15 : decode cX7_cuts 15 = .ok (.iaload, 1) := by decide +kernel
theorem dX7_cuts_16 : decode cX7_cuts 16 = .ok (.aload_n 0, 1) := by decide +kernel
theorem dX7_cuts_17 : decode cX7_cuts 17 = .ok (.getfield 13, 3) := by decide +kernel
theorem dX7_cuts_20 : decode cX7_cuts 20 = .ok (.bipush 23, 2) := by decide +kernel
theorem dX7_cuts_22 : decode cX7_cuts 22 = .ok (.iaload, 1) := by decide +kernel
theorem dX7_cuts_23 : decode cX7_cuts 23 = .ok (.aload_n 0, 1) := by decide +kernel
theorem dX7_cuts_24 : decode cX7_cuts 24 = .ok (.getfield 22, 3) := by decide +kernel
theorem dX7_cuts_27 : decode cX7_cuts 27 = .ok (.iload_n 3, 1) := by decide +kernel
theorem dX7_cuts_28 : decode cX7_cuts 28 = .ok (.iaload, 1) := by decide +kernel
theorem dX7_cuts_29 : decode cX7_cuts 29 = .ok (.imul, 1) := by decide +kernel
theorem dX7_cuts_30 : decode cX7_cuts 30 = .ok (.iadd, 1) := by decide +kernel
theorem dX7_cuts_31 : decode cX7_cuts 31 = .ok (.iload_n 1, 1) := by decide +kernel
theorem dX7_cuts_32 : decode cX7_cuts 32 = .ok (.iadd, 1) := by decide +kernel
theorem dX7_cuts_33 : decode cX7_cuts 33 = .ok (.aload_n 0, 1) := by decide +kernel
theorem dX7_cuts_34 : decode cX7_cuts 34 = .ok (.getfield 13, 3) := by decide +kernel
theorem dX7_cuts_37 : decode cX7_cuts 37 = .ok (.bipush 22, 2) := by decide +kernel
theorem dX7_cuts_39 : decode cX7_cuts 39 = .ok (.iaload, 1) := by decide +kernel
theorem dX7_cuts_40 : decode cX7_cuts 40 = .ok (.if_icmp .le 9, 3) := by decide +kernel
theorem dX7_cuts_43 : decode cX7_cuts 43 = .ok (.iinc 3 1, 3) := by decide +kernel
theorem dX7_cuts_46 : decode cX7_cuts 46 = .ok (.goto (-44), 3) := by decide +kernel
theorem dX7_cuts_49 : decode cX7_cuts 49 = .ok (.iload_n 3, 1) := by decide +kernel
theorem dX7_cuts_50 : decode cX7_cuts 50 = .ok (.aload_n 0, 1) := by decide +kernel
theorem dX7_cuts_51 : decode cX7_cuts 51 = .ok (.getfield 144, 3) := by decide +kernel
theorem dX7_cuts_54 : decode cX7_cuts 54 = .ok (.if_icmp .ne 34, 3) := by decide +kernel
theorem dX7_cuts_57 : decode cX7_cuts 57 = .ok (.aload_n 0, 1) := by decide +kernel
theorem dX7_cuts_58 : decode cX7_cuts 58 = .ok (.getfield 22, 3) := by decide +kernel
theorem dX7_cuts_61 : decode cX7_cuts 61 = .ok (.iload_n 3, 1) := by decide +kernel
theorem dX7_cuts_62 : decode cX7_cuts 62 = .ok (.iconst 0, 1) := by decide +kernel
theorem dX7_cuts_63 : decode cX7_cuts 63 = .ok (.iastore, 1) := by decide +kernel
theorem dX7_cuts_64 : decode cX7_cuts 64 = .ok (.aload_n 0, 1) := by decide +kernel
theorem dX7_cuts_65 : decode cX7_cuts 65 = .ok (.getfield 25, 3) := by decide +kernel
theorem dX7_cuts_68 : decode cX7_cuts 68 = .ok (.iload_n 3, 1) := by decide +kernel
theorem dX7_cuts_69 : decode cX7_cuts 69 = .ok (.iconst 0, 1) := by decide +kernel
theorem dX7_cuts_70 : decode cX7_cuts 70 = .ok (.iastore, 1) := by decide +kernel
theorem dX7_cuts_71 : decode cX7_cuts 71 = .ok (.aload_n 0, 1) := by decide +kernel
theorem dX7_cuts_72 : decode cX7_cuts 72 = .ok (.getfield 28, 3) := by decide +kernel
theorem dX7_cuts_75 : decode cX7_cuts 75 = .ok (.iload_n 3, 1) := by decide +kernel
theorem dX7_cuts_76 : decode cX7_cuts 76 = .ok (.iload_n 1, 1) := by decide +kernel
theorem dX7_cuts_77 : decode cX7_cuts 77 = .ok (.iastore, 1) := by decide +kernel
theorem dX7_cuts_78 : decode cX7_cuts 78 = .ok (.aload_n 0, 1) := by decide +kernel
theorem dX7_cuts_79 : decode cX7_cuts 79 = .ok (.dup, 1) := by decide +kernel
theorem dX7_cuts_80 : decode cX7_cuts 80 = .ok (.getfield 144, 3) := by decide +kernel
theorem dX7_cuts_83 : decode cX7_cuts 83 = .ok (.iconst 1, 1) := by decide +kernel
theorem dX7_cuts_84 : decode cX7_cuts 84 = .ok (.iadd, 1) := by decide +kernel
theorem dX7_cuts_85 : decode cX7_cuts 85 = .ok (.putfield 144, 3) := by decide +kernel
theorem dX7_cuts_88 : decode cX7_cuts 88 = .ok (.aload_n 0, 1) := by decide +kernel
theorem dX7_cuts_89 : decode cX7_cuts 89 = .ok (.getfield 22, 3) := by decide +kernel
theorem dX7_cuts_92 : decode cX7_cuts 92 = .ok (.iload_n 3, 1) := by decide +kernel
theorem dX7_cuts_93 : decode cX7_cuts 93 = .ok (.dup2, 1) := by decide +kernel
theorem dX7_cuts_94 : decode cX7_cuts 94 = .ok (.iaload, 1) := by decide +kernel
theorem dX7_cuts_95 : decode cX7_cuts 95 = .ok (.iconst 1, 1) := by decide +kernel
theorem dX7_cuts_96 : decode cX7_cuts 96 = .ok (.iadd, 1) := by decide +kernel
theorem dX7_cuts_97 : decode cX7_cuts 97 = .ok (.iastore, 1) := by decide +kernel
theorem dX7_cuts_98 : decode cX7_cuts 98 = .ok (.aload_n 0, 1) := by decide +kernel
theorem dX7_cuts_99 : decode cX7_cuts 99 = .ok (.getfield 25, 3) := by decide +kernel
theorem dX7_cuts_102 : decode cX7_cuts 102 = .ok (.iload_n 3, 1) := by decide +kernel
theorem dX7_cuts_103 : decode cX7_cuts 103 = .ok (.dup2, 1) := by decide +kernel
theorem dX7_cuts_104 : decode cX7_cuts 104 = .ok (.iaload, 1) := by decide +kernel
theorem dX7_cuts_105 : decode cX7_cuts 105 = .ok (.iload_n 1, 1) := by decide +kernel
theorem dX7_cuts_106 : decode cX7_cuts 106 = .ok (.iadd, 1) := by decide +kernel
theorem dX7_cuts_107 : decode cX7_cuts 107 = .ok (.iastore, 1) := by decide +kernel
theorem dX7_cuts_108 : decode cX7_cuts 108 = .ok (.aload_n 0, 1) := by decide +kernel
theorem dX7_cuts_109 : decode cX7_cuts 109 = .ok (.getfield 31, 3) := by decide +kernel
theorem dX7_cuts_112 : decode cX7_cuts 112 = .ok (.iload_n 2, 1) := by decide +kernel
theorem dX7_cuts_113 : decode cX7_cuts 113 = .ok (.iload_n 3, 1) := by decide +kernel
theorem dX7_cuts_114 : decode cX7_cuts 114 = .ok (.iastore, 1) := by decide +kernel
theorem dX7_cuts_115 : decode cX7_cuts 115 = .ok (.aload_n 0, 1) := by decide +kernel
theorem dX7_cuts_116 : decode cX7_cuts 116 = .ok (.dup, 1) := by decide +kernel
theorem dX7_cuts_117 : decode cX7_cuts 117 = .ok (.getfield 147, 3) := by decide +kernel
theorem dX7_cuts_120 : decode cX7_cuts 120 = .ok (.iconst 1, 1) := by decide +kernel
theorem dX7_cuts_121 : decode cX7_cuts 121 = .ok (.iadd, 1) := by decide +kernel
theorem dX7_cuts_122 : decode cX7_cuts 122 = .ok (.putfield 147, 3) := by decide +kernel
theorem dX7_cuts_125 : decode cX7_cuts 125 = .ok (.aload_n 0, 1) := by decide +kernel
theorem dX7_cuts_126 : decode cX7_cuts 126 = .ok (.dup, 1) := by decide +kernel
theorem dX7_cuts_127 : decode cX7_cuts 127 = .ok (.getfield 150, 3) := by decide +kernel
theorem dX7_cuts_130 : decode cX7_cuts 130 = .ok (.iload_n 1, 1) := by decide +kernel
theorem dX7_cuts_131 : decode cX7_cuts 131 = .ok (.iadd, 1) := by decide +kernel
theorem dX7_cuts_132 : decode cX7_cuts 132 = .ok (.putfield 150, 3) := by decide +kernel
theorem dX7_cuts_135 : decode cX7_cuts 135 = .ok (.return_, 1) := by decide +kernel
theorem dX7_cutsAll_0 : decode cX7_cutsAll 0 = .ok (.aload_n 0, 1) := by decide +kernel
theorem dX7_cutsAll_1 : decode cX7_cutsAll 1 = .ok (.iconst 0, 1) := by decide +kernel
theorem dX7_cutsAll_2 : decode cX7_cutsAll 2 = .ok (.putfield 144, 3) := by decide +kernel
theorem dX7_cutsAll_5 : decode cX7_cutsAll 5 = .ok (.aload_n 0, 1) := by decide +kernel
theorem dX7_cutsAll_6 : decode cX7_cutsAll 6 = .ok (.iconst 0, 1) := by decide +kernel
theorem dX7_cutsAll_7 : decode cX7_cutsAll 7 = .ok (.putfield 147, 3) := by decide +kernel
theorem dX7_cutsAll_10 : decode cX7_cutsAll 10 = .ok (.aload_n 0, 1) := by decide +kernel
theorem dX7_cutsAll_11 : decode cX7_cutsAll 11 = .ok (.iconst 0, 1) := by decide +kernel
theorem dX7_cutsAll_12 : decode cX7_cutsAll 12 = .ok (.putfield 153, 3) := by decide +kernel
theorem dX7_cutsAll_15 : decode cX7_cutsAll 15 = .ok (.aload_n 0, 1) := by decide +kernel
theorem dX7_cutsAll_16 : decode cX7_cutsAll 16 = .ok (.iconst 0, 1) := by decide +kernel
theorem dX7_cutsAll_17 : decode cX7_cutsAll 17 = .ok (.putfield 150, 3) := by decide +kernel
theorem dX7_cutsAll_20 : decode cX7_cutsAll 20 = .ok (.iconst 0, 1) := by decide +kernel
theorem dX7_cutsAll_21 : decode cX7_cutsAll 21 = .ok (.istore_n 1, 1) := by decide +kernel
theorem dX7_cutsAll_22 : decode cX7_cutsAll 22 = .ok (.iload_n 1, 1) := by decide +kernel
theorem dX7_cutsAll_23 : decode cX7_cutsAll 23 = .ok (.sipush 160, 3) := by decide +kernel
theorem dX7_cutsAll_26 : decode cX7_cutsAll 26 = .ok (.if_icmp .ge 83, 3) := by decide +kernel
theorem dX7_cutsAll_29 : decode cX7_cutsAll 29 = .ok (.iload_n 1, 1) := by decide +kernel
theorem dX7_cutsAll_30 : decode cX7_cutsAll 30 = .ok (.bipush 40, 2) := by decide +kernel
theorem dX7_cutsAll_32 : decode cX7_cutsAll 32 = .ok (.idiv, 1) := by decide +kernel
theorem dX7_cutsAll_33 : decode cX7_cutsAll 33 = .ok (.aload_n 0, 1) := by decide +kernel
theorem dX7_cutsAll_34 : decode cX7_cutsAll 34 = .ok (.getfield 13, 3) := by decide +kernel
theorem dX7_cutsAll_37 : decode cX7_cutsAll 37 = .ok (.bipush 20, 2) := by decide +kernel
theorem dX7_cutsAll_39 : decode cX7_cutsAll 39 = .ok (.iaload, 1) := by decide +kernel
theorem dX7_cutsAll_40 : decode cX7_cutsAll 40 = .ok (.if_icmp .ge 27, 3) := by decide +kernel
theorem dX7_cutsAll_43 : decode cX7_cutsAll 43 = .ok (.iload_n 1, 1) := by decide +kernel
theorem dX7_cutsAll_44 : decode cX7_cutsAll 44 = .ok (.bipush 40, 2) := by decide +kernel
theorem dX7_cutsAll_46 : decode cX7_cutsAll 46 = .ok (.irem, 1) := by decide +kernel
theorem dX7_cutsAll_47 : decode cX7_cutsAll 47 = .ok (.aload_n 0, 1) := by decide +kernel
theorem dX7_cutsAll_48 : decode cX7_cutsAll 48 = .ok (.getfield 13, 3) := by decide +kernel
theorem dX7_cutsAll_51 : decode cX7_cutsAll 51 = .ok (.iconst 5, 1) := by decide +kernel
theorem dX7_cutsAll_52 : decode cX7_cutsAll 52 = .ok (.iload_n 1, 1) := by decide +kernel
theorem dX7_cutsAll_53 : decode cX7_cutsAll 53 = .ok (.bipush 40, 2) := by decide +kernel
theorem dX7_cutsAll_55 : decode cX7_cutsAll 55 = .ok (.idiv, 1) := by decide +kernel
theorem dX7_cutsAll_56 : decode cX7_cutsAll 56 = .ok (.imul, 1) := by decide +kernel
theorem dX7_cutsAll_57 : decode cX7_cutsAll 57 = .ok (.iconst 4, 1) := by decide +kernel
theorem dX7_cutsAll_58 : decode cX7_cutsAll 58 = .ok (.iadd, 1) := by decide +kernel
theorem dX7_cutsAll_59 : decode cX7_cutsAll 59 = .ok (.iaload, 1) := by decide +kernel
theorem dX7_cutsAll_60 : decode cX7_cutsAll 60 = .ok (.if_icmp .ge 7, 3) := by decide +kernel
theorem dX7_cutsAll_63 : decode cX7_cutsAll 63 = .ok (.iconst 1, 1) := by decide +kernel
theorem dX7_cutsAll_64 : decode cX7_cutsAll 64 = .ok (.goto 4, 3) := by decide +kernel
theorem dX7_cutsAll_67 : decode cX7_cutsAll 67 = .ok (.iconst 0, 1) := by decide +kernel
theorem dX7_cutsAll_68 : decode cX7_cutsAll 68 = .ok (.istore_n 2, 1) := by decide +kernel
theorem dX7_cutsAll_69 : decode cX7_cutsAll 69 = .ok (.aload_n 0, 1) := by decide +kernel
theorem dX7_cutsAll_70 : decode cX7_cutsAll 70 = .ok (.getfield 34, 3) := by decide +kernel
theorem dX7_cutsAll_73 : decode cX7_cutsAll 73 = .ok (.iload_n 1, 1) := by decide +kernel
theorem dX7_cutsAll_74 : decode cX7_cutsAll 74 = .ok (.iload_n 2, 1) := by decide +kernel
theorem dX7_cutsAll_75 : decode cX7_cutsAll 75 = .ok (.ifCond .eq 18, 3) := by decide +kernel
theorem dX7_cutsAll_78 : decode cX7_cutsAll 78 = .ok (.aload_n 0, 1) := by decide +kernel
theorem dX7_cutsAll_79 : decode cX7_cutsAll 79 = .ok (.iload_n 1, 1) := by decide +kernel
theorem dX7_cutsAll_80 : decode cX7_cutsAll 80 = .ok (.bipush 40, 2) := by decide +kernel
theorem dX7_cutsAll_82 : decode cX7_cutsAll 82 = .ok (.idiv, 1) := by decide +kernel
theorem dX7_cutsAll_83 : decode cX7_cutsAll 83 = .ok (.iload_n 1, 1) := by decide +kernel
theorem dX7_cutsAll_84 : decode cX7_cutsAll 84 = .ok (.bipush 40, 2) := by decide +kernel
theorem dX7_cutsAll_86 : decode cX7_cutsAll 86 = .ok (.irem, 1) := by decide +kernel
theorem dX7_cutsAll_87 : decode cX7_cutsAll 87 = .ok (.invokevirtual 126, 3) := by decide +kernel
theorem dX7_cutsAll_90 : decode cX7_cutsAll 90 = .ok (.goto 4, 3) := by decide +kernel
theorem dX7_cutsAll_93 : decode cX7_cutsAll 93 = .ok (.iconst 0, 1) := by decide +kernel
theorem dX7_cutsAll_94 : decode cX7_cutsAll 94 = .ok (.iastore, 1) := by decide +kernel
theorem dX7_cutsAll_95 : decode cX7_cutsAll 95 = .ok (.aload_n 0, 1) := by decide +kernel
theorem dX7_cutsAll_96 : decode cX7_cutsAll 96 = .ok (.getfield 31, 3) := by decide +kernel
theorem dX7_cutsAll_99 : decode cX7_cutsAll 99 = .ok (.iload_n 1, 1) := by decide +kernel
theorem dX7_cutsAll_100 : decode cX7_cutsAll 100 = .ok (.bipush (-4), 2) := by decide +kernel
theorem dX7_cutsAll_102 : decode cX7_cutsAll 102 = .ok (.iastore, 1) := by decide +kernel
theorem dX7_cutsAll_103 : decode cX7_cutsAll 103 = .ok (.iinc 1 1, 3) := by decide +kernel
theorem dX7_cutsAll_106 : decode cX7_cutsAll 106 = .ok (.goto (-84), 3) := by decide +kernel
theorem dX7_cutsAll_109 : decode cX7_cutsAll 109 = .ok (.bipush 30, 2) := by decide +kernel
theorem dX7_cutsAll_111 : decode cX7_cutsAll 111 = .ok (.istore_n 1, 1) := by decide +kernel
theorem dX7_cutsAll_112 : decode cX7_cutsAll 112 = .ok (.iload_n 1, 1) := by decide +kernel
theorem dX7_cutsAll_113 : decode cX7_cutsAll 113 = .ok (.ifCond .le 84, 3) := by decide +kernel
theorem dX7_cutsAll_116 : decode cX7_cutsAll 116 = .ok (.iload_n 1, 1) := by decide +kernel
theorem dX7_cutsAll_117 : decode cX7_cutsAll 117 = .ok (.aload_n 0, 1) := by decide +kernel
theorem dX7_cutsAll_118 : decode cX7_cutsAll 118 = .ok (.getfield 13, 3) := by decide +kernel
theorem dX7_cutsAll_121 : decode cX7_cutsAll 121 = .ok (.bipush 21, 2) := by decide +kernel
theorem dX7_cutsAll_123 : decode cX7_cutsAll 123 = .ok (.iaload, 1) := by decide +kernel
theorem dX7_cutsAll_124 : decode cX7_cutsAll 124 = .ok (.imul, 1) := by decide +kernel
theorem dX7_cutsAll_125 : decode cX7_cutsAll 125 = .ok (.istore_n 2, 1) := by decide +kernel
theorem dX7_cutsAll_126 : decode cX7_cutsAll 126 = .ok (.iconst 0, 1) := by decide +kernel
theorem dX7_cutsAll_127 : decode cX7_cutsAll 127 = .ok (.istore_n 3, 1) := by decide +kernel
theorem dX7_cutsAll_128 : decode cX7_cutsAll 128 = .ok (.iload_n 3, 1) := by decide +kernel
theorem dX7_cutsAll_129 : decode cX7_cutsAll 129 = .ok (.sipush 160, 3) := by decide +kernel
theorem dX7_cutsAll_132 : decode cX7_cutsAll 132 = .ok (.if_icmp .ge 59, 3) := by decide +kernel
theorem dX7_cutsAll_135 : decode cX7_cutsAll 135 = .ok (.aload_n 0, 1) := by decide +kernel
theorem dX7_cutsAll_136 : decode cX7_cutsAll 136 = .ok (.getfield 34, 3) := by decide +kernel
theorem dX7_cutsAll_139 : decode cX7_cutsAll 139 = .ok (.iload_n 3, 1) := by decide +kernel
theorem dX7_cutsAll_140 : decode cX7_cutsAll 140 = .ok (.iaload, 1) := by decide +kernel
theorem dX7_cutsAll_141 : decode cX7_cutsAll 141 = .ok (.iload_n 1, 1) := by decide +kernel
theorem dX7_cutsAll_142 : decode cX7_cutsAll 142 = .ok (.if_icmp .ne 27, 3) := by decide +kernel
theorem dX7_cutsAll_145 : decode cX7_cutsAll 145 = .ok (.iload_n 2, 1) := by decide +kernel
theorem dX7_cutsAll_146 : decode cX7_cutsAll 146 = .ok (.aload_n 0, 1) := by decide +kernel
theorem dX7_cutsAll_147 : decode cX7_cutsAll 147 = .ok (.getfield 13, 3) := by decide +kernel
theorem dX7_cutsAll_150 : decode cX7_cutsAll 150 = .ok (.bipush 22, 2) := by decide +kernel
theorem dX7_cutsAll_152 : decode cX7_cutsAll 152 = .ok (.iaload, 1) := by decide +kernel
theorem dX7_cutsAll_153 : decode cX7_cutsAll 153 = .ok (.if_icmp .le 16, 3) := by decide +kernel
theorem dX7_cutsAll_156 : decode cX7_cutsAll 156 = .ok (.aload_n 0, 1) := by decide +kernel
theorem dX7_cutsAll_157 : decode cX7_cutsAll 157 = .ok (.dup, 1) := by decide +kernel
theorem dX7_cutsAll_158 : decode cX7_cutsAll 158 = .ok (.getfield 153, 3) := by decide +kernel
theorem dX7_cutsAll_161 : decode cX7_cutsAll 161 = .ok (.iconst 1, 1) := by decide +kernel
theorem dX7_cutsAll_162 : decode cX7_cutsAll 162 = .ok (.iadd, 1) := by decide +kernel
theorem dX7_cutsAll_163 : decode cX7_cutsAll 163 = .ok (.putfield 153, 3) := by decide +kernel
theorem dX7_cutsAll_166 : decode cX7_cutsAll 166 = .ok (.goto 19, 3) := by decide +kernel
theorem dX7_cutsAll_169 : decode cX7_cutsAll 169 = .ok (.aload_n 0, 1) := by decide +kernel
theorem dX7_cutsAll_170 : decode cX7_cutsAll 170 = .ok (.getfield 34, 3) := by decide +kernel
theorem dX7_cutsAll_173 : decode cX7_cutsAll 173 = .ok (.iload_n 3, 1) := by decide +kernel
theorem dX7_cutsAll_174 : decode cX7_cutsAll 174 = .ok (.iaload, 1) := by decide +kernel
theorem dX7_cutsAll_175 : decode cX7_cutsAll 175 = .ok (.iload_n 1, 1) := by decide +kernel
theorem dX7_cutsAll_176 : decode cX7_cutsAll 176 = .ok (.if_icmp .ne 9, 3) := by decide +kernel
theorem dX7_cutsAll_179 : decode cX7_cutsAll 179 = .ok (.aload_n 0, 1) := by decide +kernel
theorem dX7_cutsAll_180 : decode cX7_cutsAll 180 = .ok (.iload_n 2, 1) := by decide +kernel
theorem dX7_cutsAll_181 : decode cX7_cutsAll 181 = .ok (.iload_n 3, 1) := by decide +kernel
theorem dX7_cutsAll_182 : decode cX7_cutsAll 182 = .ok (.invokevirtual 156, 3) := by decide +kernel
theorem dX7_cutsAll_185 : decode cX7_cutsAll 185 = .ok (.iinc 3 1, 3) := by decide +kernel
theorem dX7_cutsAll_188 : decode cX7_cutsAll 188 = .ok (.goto (-60), 3) := by decide +kernel
theorem dX7_cutsAll_191 : decode cX7_cutsAll 191 = .ok (.iinc 1 (-1), 3) := by decide +kernel
theorem dX7_cutsAll_194 : decode cX7_cutsAll 194 = .ok (.goto (-82), 3) := by decide +kernel
theorem dX7_cutsAll_197 : decode cX7_cutsAll 197 = .ok (.return_, 1) := by decide +kernel
theorem dX7_cut_0 : decode cX7_cut 0 = .ok (.iload_n 1, 1) := by decide +kernel
theorem dX7_cut_1 : decode cX7_cut 1 = .ok (.i2l, 1) := by decide +kernel
theorem dX7_cut_2 : decode cX7_cut 2 = .ok (.lconst 0, 1) := by decide +kernel
theorem dX7_cut_3 : decode cX7_cut 3 = .ok (.ldc2_w 159, 3) := by decide +kernel
theorem dX7_cut_6 : decode cX7_cut 6 = .ok (.invokestatic 43, 3) := by decide +kernel
theorem dX7_cut_9 : decode cX7_cut 9 = .ok (.ifCond .ne 5, 3) := by decide +kernel
theorem dX7_cut_12 : decode cX7_cut 12 = .ok (.iconst (-1), 1) := by decide +kernel
theorem dX7_cut_13 : decode cX7_cut 13 = .ok (.ireturn, 1) := by decide +kernel
theorem dX7_cut_14 : decode cX7_cut 14 = .ok (.aload_n 0, 1) := by decide +kernel
theorem dX7_cut_15 : decode cX7_cut 15 = .ok (.invokevirtual 161, 3) := by decide +kernel
theorem dX7_cut_18 : decode cX7_cut 18 = .ok (.iload_n 1, 1) := by decide +kernel
theorem dX7_cut_19 : decode cX7_cut 19 = .ok (.ifCond .ne 10, 3) := by decide +kernel
theorem dX7_cut_22 : decode cX7_cut 22 = .ok (.aload_n 0, 1) := by decide +kernel
theorem dX7_cut_23 : decode cX7_cut 23 = .ok (.getfield 144, 3) := by decide +kernel
theorem dX7_cut_26 : decode cX7_cut 26 = .ok (.goto 74, 3) := by decide +kernel
theorem dX7_cut_29 : decode cX7_cut 29 = .ok (.iload_n 1, 1) := by decide +kernel
theorem dX7_cut_30 : decode cX7_cut 30 = .ok (.iconst 1, 1) := by decide +kernel
theorem dX7_cut_31 : decode cX7_cut 31 = .ok (.if_icmp .ne 10, 3) := by decide +kernel
theorem dX7_cut_34 : decode cX7_cut 34 = .ok (.aload_n 0, 1) := by decide +kernel
theorem dX7_cut_35 : decode cX7_cut 35 = .ok (.getfield 147, 3) := by decide +kernel
theorem dX7_cut_38 : decode cX7_cut 38 = .ok (.goto 62, 3) := by decide +kernel
theorem dX7_cut_41 : decode cX7_cut 41 = .ok (.iload_n 1, 1) := by decide +kernel
theorem dX7_cut_42 : decode cX7_cut 42 = .ok (.iconst 2, 1) := by decide +kernel
theorem dX7_cut_43 : decode cX7_cut 43 = .ok (.if_icmp .ne 10, 3) := by decide +kernel
theorem dX7_cut_46 : decode cX7_cut 46 = .ok (.aload_n 0, 1) := by decide +kernel
theorem dX7_cut_47 : decode cX7_cut 47 = .ok (.getfield 153, 3) := by decide +kernel
theorem dX7_cut_50 : decode cX7_cut 50 = .ok (.goto 50, 3) := by decide +kernel
theorem dX7_cut_53 : decode cX7_cut 53 = .ok (.iload_n 1, 1) := by decide +kernel
theorem dX7_cut_54 : decode cX7_cut 54 = .ok (.iconst 3, 1) := by decide +kernel
theorem dX7_cut_55 : decode cX7_cut 55 = .ok (.if_icmp .ne 28, 3) := by decide +kernel
theorem dX7_cut_58 : decode cX7_cut 58 = .ok (.aload_n 0, 1) := by decide +kernel
theorem dX7_cut_59 : decode cX7_cut 59 = .ok (.getfield 150, 3) := by decide +kernel
theorem dX7_cut_62 : decode cX7_cut 62 = .ok (.aload_n 0, 1) := by decide +kernel
theorem dX7_cut_63 : decode cX7_cut 63 = .ok (.getfield 13, 3) := by decide +kernel
theorem dX7_cut_66 : decode cX7_cut 66 = .ok (.bipush 22, 2) := by decide +kernel
theorem dX7_cut_68 : decode cX7_cut 68 = .ok (.iaload, 1) := by decide +kernel
theorem dX7_cut_69 : decode cX7_cut 69 = .ok (.iadd, 1) := by decide +kernel
theorem dX7_cut_70 : decode cX7_cut 70 = .ok (.iconst 1, 1) := by decide +kernel
theorem dX7_cut_71 : decode cX7_cut 71 = .ok (.isub, 1) := by decide +kernel
theorem dX7_cut_72 : decode cX7_cut 72 = .ok (.aload_n 0, 1) := by decide +kernel
theorem dX7_cut_73 : decode cX7_cut 73 = .ok (.getfield 13, 3) := by decide +kernel
theorem dX7_cut_76 : decode cX7_cut 76 = .ok (.bipush 22, 2) := by decide +kernel
theorem dX7_cut_78 : decode cX7_cut 78 = .ok (.iaload, 1) := by decide +kernel
theorem dX7_cut_79 : decode cX7_cut 79 = .ok (.idiv, 1) := by decide +kernel
theorem dX7_cut_80 : decode cX7_cut 80 = .ok (.goto 20, 3) := by decide +kernel
theorem dX7_cut_83 : decode cX7_cut 83 = .ok (.aload_n 0, 1) := by decide +kernel
theorem dX7_cut_84 : decode cX7_cut 84 = .ok (.getfield 144, 3) := by decide +kernel
theorem dX7_cut_87 : decode cX7_cut 87 = .ok (.aload_n 0, 1) := by decide +kernel
theorem dX7_cut_88 : decode cX7_cut 88 = .ok (.getfield 13, 3) := by decide +kernel
theorem dX7_cut_91 : decode cX7_cut 91 = .ok (.bipush 22, 2) := by decide +kernel
theorem dX7_cut_93 : decode cX7_cut 93 = .ok (.iaload, 1) := by decide +kernel
theorem dX7_cut_94 : decode cX7_cut 94 = .ok (.imul, 1) := by decide +kernel
theorem dX7_cut_95 : decode cX7_cut 95 = .ok (.aload_n 0, 1) := by decide +kernel
theorem dX7_cut_96 : decode cX7_cut 96 = .ok (.getfield 150, 3) := by decide +kernel
theorem dX7_cut_99 : decode cX7_cut 99 = .ok (.isub, 1) := by decide +kernel
theorem dX7_cut_100 : decode cX7_cut 100 = .ok (.ireturn, 1) := by decide +kernel
theorem dX7_board_0 : decode cX7_board 0 = .ok (.aload_n 0, 1) := by decide +kernel
theorem dX7_board_1 : decode cX7_board 1 = .ok (.invokevirtual 161, 3) := by decide +kernel
theorem dX7_board_4 : decode cX7_board 4 = .ok (.iload_n 1, 1) := by decide +kernel
theorem dX7_board_5 : decode cX7_board 5 = .ok (.i2l, 1) := by decide +kernel
theorem dX7_board_6 : decode cX7_board 6 = .ok (.lconst 0, 1) := by decide +kernel
theorem dX7_board_7 : decode cX7_board 7 = .ok (.aload_n 0, 1) := by decide +kernel
theorem dX7_board_8 : decode cX7_board 8 = .ok (.getfield 144, 3) := by decide +kernel
theorem dX7_board_11 : decode cX7_board 11 = .ok (.iconst 1, 1) := by decide +kernel
theorem dX7_board_12 : decode cX7_board 12 = .ok (.isub, 1) := by decide +kernel
theorem dX7_board_13 : decode cX7_board 13 = .ok (.i2l, 1) := by decide +kernel
theorem dX7_board_14 : decode cX7_board 14 = .ok (.invokestatic 43, 3) := by decide +kernel
theorem dX7_board_17 : decode cX7_board 17 = .ok (.ifCond .eq 15, 3) := by decide +kernel
theorem dX7_board_20 : decode cX7_board 20 = .ok (.iload_n 2, 1) := by decide +kernel
theorem dX7_board_21 : decode cX7_board 21 = .ok (.i2l, 1) := by decide +kernel
theorem dX7_board_22 : decode cX7_board 22 = .ok (.lconst 0, 1) := by decide +kernel
theorem dX7_board_23 : decode cX7_board 23 = .ok (.ldc2_w 41, 3) := by decide +kernel
theorem dX7_board_26 : decode cX7_board 26 = .ok (.invokestatic 43, 3) := by decide +kernel
theorem dX7_board_29 : decode cX7_board 29 = .ok (.ifCond .ne 5, 3) := by decide +kernel
theorem dX7_board_32 : decode cX7_board 32 = .ok (.iconst (-1), 1) := by decide +kernel
theorem dX7_board_33 : decode cX7_board 33 = .ok (.ireturn, 1) := by decide +kernel
theorem dX7_board_34 : decode cX7_board 34 = .ok (.iload_n 2, 1) := by decide +kernel
theorem dX7_board_35 : decode cX7_board 35 = .ok (.ifCond .ne 12, 3) := by decide +kernel
theorem dX7_board_38 : decode cX7_board 38 = .ok (.aload_n 0, 1) := by decide +kernel
theorem dX7_board_39 : decode cX7_board 39 = .ok (.getfield 22, 3) := by decide +kernel
theorem dX7_board_42 : decode cX7_board 42 = .ok (.iload_n 1, 1) := by decide +kernel
theorem dX7_board_43 : decode cX7_board 43 = .ok (.iaload, 1) := by decide +kernel
theorem dX7_board_44 : decode cX7_board 44 = .ok (.goto 31, 3) := by decide +kernel
theorem dX7_board_47 : decode cX7_board 47 = .ok (.iload_n 2, 1) := by decide +kernel
theorem dX7_board_48 : decode cX7_board 48 = .ok (.iconst 1, 1) := by decide +kernel
theorem dX7_board_49 : decode cX7_board 49 = .ok (.if_icmp .ne 20, 3) := by decide +kernel
theorem dX7_board_52 : decode cX7_board 52 = .ok (.aload_n 0, 1) := by decide +kernel
theorem dX7_board_53 : decode cX7_board 53 = .ok (.getfield 13, 3) := by decide +kernel
theorem dX7_board_56 : decode cX7_board 56 = .ok (.bipush 22, 2) := by decide +kernel
theorem dX7_board_58 : decode cX7_board 58 = .ok (.iaload, 1) := by decide +kernel
theorem dX7_board_59 : decode cX7_board 59 = .ok (.aload_n 0, 1) := by decide +kernel
theorem dX7_board_60 : decode cX7_board 60 = .ok (.getfield 25, 3) := by decide +kernel
theorem dX7_board_63 : decode cX7_board 63 = .ok (.iload_n 1, 1) := by decide +kernel
theorem dX7_board_64 : decode cX7_board 64 = .ok (.iaload, 1) := by decide +kernel
theorem dX7_board_65 : decode cX7_board 65 = .ok (.isub, 1) := by decide +kernel
theorem dX7_board_66 : decode cX7_board 66 = .ok (.goto 9, 3) := by decide +kernel
theorem dX7_board_69 : decode cX7_board 69 = .ok (.aload_n 0, 1) := by decide +kernel
theorem dX7_board_70 : decode cX7_board 70 = .ok (.getfield 28, 3) := by decide +kernel
theorem dX7_board_73 : decode cX7_board 73 = .ok (.iload_n 1, 1) := by decide +kernel
theorem dX7_board_74 : decode cX7_board 74 = .ok (.iaload, 1) := by decide +kernel
theorem dX7_board_75 : decode cX7_board 75 = .ok (.ireturn, 1) := by decide +kernel
theorem dX7_where_0 : decode cX7_where 0 = .ok (.aload_n 0, 1) := by decide +kernel
theorem dX7_where_1 : decode cX7_where 1 = .ok (.iload_n 1, 1) := by decide +kernel
theorem dX7_where_2 : decode cX7_where 2 = .ok (.invokevirtual 106, 3) := by decide +kernel
theorem dX7_where_5 : decode cX7_where 5 = .ok (.ifCond .eq 25, 3) := by decide +kernel
theorem dX7_where_8 : decode cX7_where 8 = .ok (.iload_n 2, 1) := by decide +kernel
theorem dX7_where_9 : decode cX7_where 9 = .ok (.i2l, 1) := by decide +kernel
theorem dX7_where_10 : decode cX7_where 10 = .ok (.lconst 0, 1) := by decide +kernel
theorem dX7_where_11 : decode cX7_where 11 = .ok (.aload_n 0, 1) := by decide +kernel
theorem dX7_where_12 : decode cX7_where 12 = .ok (.getfield 13, 3) := by decide +kernel
theorem dX7_where_15 : decode cX7_where 15 = .ok (.iconst 5, 1) := by decide +kernel
theorem dX7_where_16 : decode cX7_where 16 = .ok (.iload_n 1, 1) := by decide +kernel
theorem dX7_where_17 : decode cX7_where 17 = .ok (.imul, 1) := by decide +kernel
theorem dX7_where_18 : decode cX7_where 18 = .ok (.iconst 4, 1) := by decide +kernel
theorem dX7_where_19 : decode cX7_where 19 = .ok (.iadd, 1) := by decide +kernel
theorem dX7_where_20 : decode cX7_where 20 = .ok (.iaload, 1) := by decide +kernel
theorem dX7_where_21 : decode cX7_where 21 = .ok (.iconst 1, 1) := by decide +kernel
theorem dX7_where_22 : decode cX7_where 22 = .ok (.isub, 1) := by decide +kernel
theorem dX7_where_23 : decode cX7_where 23 = .ok (.i2l, 1) := by decide +kernel
theorem dX7_where_24 : decode cX7_where 24 = .ok (.invokestatic 43, 3) := by decide +kernel
theorem dX7_where_27 : decode cX7_where 27 = .ok (.ifCond .ne 5, 3) := by decide +kernel
theorem dX7_where_30 : decode cX7_where 30 = .ok (.iconst (-1), 1) := by decide +kernel
theorem dX7_where_31 : decode cX7_where 31 = .ok (.ireturn, 1) := by decide +kernel
theorem dX7_where_32 : decode cX7_where 32 = .ok (.aload_n 0, 1) := by decide +kernel
theorem dX7_where_33 : decode cX7_where 33 = .ok (.invokevirtual 161, 3) := by decide +kernel
theorem dX7_where_36 : decode cX7_where 36 = .ok (.aload_n 0, 1) := by decide +kernel
theorem dX7_where_37 : decode cX7_where 37 = .ok (.getfield 31, 3) := by decide +kernel
theorem dX7_where_40 : decode cX7_where 40 = .ok (.bipush 40, 2) := by decide +kernel
theorem dX7_where_42 : decode cX7_where 42 = .ok (.iload_n 1, 1) := by decide +kernel
theorem dX7_where_43 : decode cX7_where 43 = .ok (.imul, 1) := by decide +kernel
theorem dX7_where_44 : decode cX7_where 44 = .ok (.iload_n 2, 1) := by decide +kernel
theorem dX7_where_45 : decode cX7_where 45 = .ok (.iadd, 1) := by decide +kernel
theorem dX7_where_46 : decode cX7_where 46 = .ok (.iaload, 1) := by decide +kernel
theorem dX7_where_47 : decode cX7_where 47 = .ok (.ireturn, 1) := by decide +kernel
theorem dX7_best_0 : decode cX7_best 0 = .ok (.aload_n 0, 1) := by decide +kernel
theorem dX7_best_1 : decode cX7_best 1 = .ok (.iload_n 1, 1) := by decide +kernel
theorem dX7_best_2 : decode cX7_best 2 = .ok (.invokevirtual 106, 3) := by decide +kernel
theorem dX7_best_5 : decode cX7_best 5 = .ok (.ifCond .eq 13, 3) := by decide +kernel
theorem dX7_best_8 : decode cX7_best 8 = .ok (.iload_n 2, 1) := by decide +kernel
theorem dX7_best_9 : decode cX7_best 9 = .ok (.i2l, 1) := by decide +kernel
theorem dX7_best_10 : decode cX7_best 10 = .ok (.lconst 0, 1) := by decide +kernel
theorem dX7_best_11 : decode cX7_best 11 = .ok (.lconst 1, 1) := by decide +kernel
theorem dX7_best_12 : decode cX7_best 12 = .ok (.invokestatic 43, 3) := by decide +kernel
theorem dX7_best_15 : decode cX7_best 15 = .ok (.ifCond .ne 5, 3) := by decide +kernel
theorem dX7_best_18 : decode cX7_best 18 = .ok (.iconst (-1), 1) := by decide +kernel
theorem dX7_best_19 : decode cX7_best 19 = .ok (.ireturn, 1) := by decide +kernel
theorem dX7_best_20 : decode cX7_best 20 = .ok (.aload_n 0, 1) := by decide +kernel
theorem dX7_best_21 : decode cX7_best 21 = .ok (.getfield 13, 3) := by decide +kernel
theorem dX7_best_24 : decode cX7_best 24 = .ok (.iconst 5, 1) := by decide +kernel
theorem dX7_best_25 : decode cX7_best 25 = .ok (.iload_n 1, 1) := by decide +kernel
theorem dX7_best_26 : decode cX7_best 26 = .ok (.imul, 1) := by decide +kernel
theorem dX7_best_27 : decode cX7_best 27 = .ok (.iconst 3, 1) := by decide +kernel
theorem dX7_best_28 : decode cX7_best 28 = .ok (.iadd, 1) := by decide +kernel
theorem dX7_best_29 : decode cX7_best 29 = .ok (.iaload, 1) := by decide +kernel
theorem dX7_best_30 : decode cX7_best 30 = .ok (.istore_n 3, 1) := by decide +kernel
theorem dX7_best_31 : decode cX7_best 31 = .ok (.iconst 0, 1) := by decide +kernel
theorem dX7_best_32 : decode cX7_best 32 = .ok (.istore 4, 2) := by decide +kernel
theorem dX7_best_34 : decode cX7_best 34 = .ok (.sipush 1000, 3) := by decide +kernel
theorem dX7_best_37 : decode cX7_best 37 = .ok (.istore 5, 2) := by decide +kernel
theorem dX7_best_39 : decode cX7_best 39 = .ok (.sipush 1000, 3) := by decide +kernel
theorem dX7_best_42 : decode cX7_best 42 = .ok (.istore 6, 2) := by decide +kernel
theorem dX7_best_44 : decode cX7_best 44 = .ok (.iconst 0, 1) := by decide +kernel
theorem dX7_best_45 : decode cX7_best 45 = .ok (.istore 7, 2) := by decide +kernel
theorem dX7_best_47 : decode cX7_best 47 = .ok (.iconst 0, 1) := by decide +kernel
theorem dX7_best_48 : decode cX7_best 48 = .ok (.istore 8, 2) := by decide +kernel
theorem dX7_best_50 : decode cX7_best 50 = .ok (.iload 8, 2) := by decide +kernel
theorem dX7_best_52 : decode cX7_best 52 = .ok (.aload_n 0, 1) := by decide +kernel
theorem dX7_best_53 : decode cX7_best 53 = .ok (.getfield 13, 3) := by decide +kernel
theorem dX7_best_56 : decode cX7_best 56 = .ok (.iconst 5, 1) := by decide +kernel
theorem dX7_best_57 : decode cX7_best 57 = .ok (.iload_n 1, 1) := by decide +kernel
theorem dX7_best_58 : decode cX7_best 58 = .ok (.imul, 1) := by decide +kernel
theorem dX7_best_59 : decode cX7_best 59 = .ok (.iconst 1, 1) := by decide +kernel
theorem dX7_best_60 : decode cX7_best 60 = .ok (.iadd, 1) := by decide +kernel
theorem dX7_best_61 : decode cX7_best 61 = .ok (.iaload, 1) := by decide +kernel
theorem dX7_best_62 : decode cX7_best 62 = .ok (.if_icmp .ge 183, 3) := by decide +kernel
theorem dX7_best_65 : decode cX7_best 65 = .ok (.aload_n 0, 1) := by decide +kernel
theorem dX7_best_66 : decode cX7_best 66 = .ok (.getfield 13, 3) := by decide +kernel
theorem dX7_best_69 : decode cX7_best 69 = .ok (.iconst 5, 1) := by decide +kernel
theorem dX7_best_70 : decode cX7_best 70 = .ok (.iload_n 1, 1) := by decide +kernel
theorem dX7_best_71 : decode cX7_best 71 = .ok (.imul, 1) := by decide +kernel
theorem dX7_best_72 : decode cX7_best 72 = .ok (.iconst 3, 1) := by decide +kernel
theorem dX7_best_73 : decode cX7_best 73 = .ok (.iadd, 1) := by decide +kernel
theorem dX7_best_74 : decode cX7_best 74 = .ok (.iload 8, 2) := by decide +kernel
theorem dX7_best_76 : decode cX7_best 76 = .ok (.iastore, 1) := by decide +kernel
theorem dX7_best_77 : decode cX7_best 77 = .ok (.aload_n 0, 1) := by decide +kernel
theorem dX7_best_78 : decode cX7_best 78 = .ok (.invokevirtual 161, 3) := by decide +kernel
theorem dX7_best_81 : decode cX7_best 81 = .ok (.aload_n 0, 1) := by decide +kernel
theorem dX7_best_82 : decode cX7_best 82 = .ok (.getfield 144, 3) := by decide +kernel
theorem dX7_best_85 : decode cX7_best 85 = .ok (.ifCond .ne 7, 3) := by decide +kernel
theorem dX7_best_88 : decode cX7_best 88 = .ok (.iconst 0, 1) := by decide +kernel
theorem dX7_best_89 : decode cX7_best 89 = .ok (.goto 22, 3) := by decide +kernel
theorem dX7_best_92 : decode cX7_best 92 = .ok (.aload_n 0, 1) := by decide +kernel
theorem dX7_best_93 : decode cX7_best 93 = .ok (.getfield 13, 3) := by decide +kernel
theorem dX7_best_96 : decode cX7_best 96 = .ok (.bipush 22, 2) := by decide +kernel
theorem dX7_best_98 : decode cX7_best 98 = .ok (.iaload, 1) := by decide +kernel
theorem dX7_best_99 : decode cX7_best 99 = .ok (.aload_n 0, 1) := by decide +kernel
theorem dX7_best_100 : decode cX7_best 100 = .ok (.getfield 25, 3) := by decide +kernel
theorem dX7_best_103 : decode cX7_best 103 = .ok (.aload_n 0, 1) := by decide +kernel
theorem dX7_best_104 : decode cX7_best 104 = .ok (.getfield 144, 3) := by decide +kernel
theorem dX7_best_107 : decode cX7_best 107 = .ok (.iconst 1, 1) := by decide +kernel
theorem dX7_best_108 : decode cX7_best 108 = .ok (.isub, 1) := by decide +kernel
theorem dX7_best_109 : decode cX7_best 109 = .ok (.iaload, 1) := by decide +kernel
theorem dX7_best_110 : decode cX7_best 110 = .ok (.isub, 1) := by decide +kernel
theorem dX7_best_111 : decode cX7_best 111 = .ok (.istore 9, 2) := by decide +kernel
theorem dX7_best_113 : decode cX7_best 113 = .ok (.aload_n 0, 1) := by decide +kernel
theorem dX7_best_114 : decode cX7_best 114 = .ok (.getfield 153, 3) := by decide +kernel
theorem dX7_best_117 : decode cX7_best 117 = .ok (.iload 5, 2) := by decide +kernel
theorem dX7_best_119 : decode cX7_best 119 = .ok (.if_icmp .eq 20, 3) := by decide +kernel
theorem dX7_best_122 : decode cX7_best 122 = .ok (.aload_n 0, 1) := by decide +kernel
theorem dX7_best_123 : decode cX7_best 123 = .ok (.getfield 153, 3) := by decide +kernel
theorem dX7_best_126 : decode cX7_best 126 = .ok (.iload 5, 2) := by decide +kernel
theorem dX7_best_128 : decode cX7_best 128 = .ok (.if_icmp .ge 7, 3) := by decide +kernel
theorem dX7_best_131 : decode cX7_best 131 = .ok (.iconst 1, 1) := by decide +kernel
theorem dX7_best_132 : decode cX7_best 132 = .ok (.goto 45, 3) := by decide +kernel
theorem dX7_best_135 : decode cX7_best 135 = .ok (.iconst 0, 1) := by decide +kernel
theorem dX7_best_136 : decode cX7_best 136 = .ok (.goto 41, 3) := by decide +kernel
theorem dX7_best_139 : decode cX7_best 139 = .ok (.aload_n 0, 1) := by decide +kernel
theorem dX7_best_140 : decode cX7_best 140 = .ok (.getfield 144, 3) := by decide +kernel
theorem dX7_best_143 : decode cX7_best 143 = .ok (.iload 6, 2) := by decide +kernel
theorem dX7_best_145 : decode cX7_best 145 = .ok (.if_icmp .eq 20, 3) := by decide +kernel
theorem dX7_best_148 : decode cX7_best 148 = .ok (.aload_n 0, 1) := by decide +kernel
theorem dX7_best_149 : decode cX7_best 149 = .ok (.getfield 144, 3) := by decide +kernel
theorem dX7_best_152 : decode cX7_best 152 = .ok (.iload 6, 2) := by decide +kernel
theorem dX7_best_154 : decode cX7_best 154 = .ok (.if_icmp .ge 7, 3) := by decide +kernel
theorem dX7_best_157 : decode cX7_best 157 = .ok (.iconst 1, 1) := by decide +kernel
theorem dX7_best_158 : decode cX7_best 158 = .ok (.goto 19, 3) := by decide +kernel
theorem dX7_best_161 : decode cX7_best 161 = .ok (.iconst 0, 1) := by decide +kernel
theorem dX7_best_162 : decode cX7_best 162 = .ok (.goto 15, 3) := by decide +kernel
theorem dX7_best_165 : decode cX7_best 165 = .ok (.iload 9, 2) := by decide +kernel
theorem dX7_best_167 : decode cX7_best 167 = .ok (.iload 7, 2) := by decide +kernel
theorem dX7_best_169 : decode cX7_best 169 = .ok (.if_icmp .le 7, 3) := by decide +kernel
theorem dX7_best_172 : decode cX7_best 172 = .ok (.iconst 1, 1) := by decide +kernel
theorem dX7_best_173 : decode cX7_best 173 = .ok (.goto 4, 3) := by decide +kernel
theorem dX7_best_176 : decode cX7_best 176 = .ok (.iconst 0, 1) := by decide +kernel
theorem dX7_best_177 : decode cX7_best 177 = .ok (.istore 10, 2) := by decide +kernel
theorem dX7_best_179 : decode cX7_best 179 = .ok (.iload 10, 2) := by decide +kernel
theorem dX7_best_181 : decode cX7_best 181 = .ok (.ifCond .eq 8, 3) := by decide +kernel
theorem dX7_best_184 : decode cX7_best 184 = .ok (.iload 8, 2) := by decide +kernel
theorem dX7_best_186 : decode cX7_best 186 = .ok (.goto 5, 3) := by decide +kernel
theorem dX7_best_189 : decode cX7_best 189 = .ok (.iload 4, 2) := by decide +kernel
theorem dX7_best_191 : decode cX7_best 191 = .ok (.istore 4, 2) := by decide +kernel
theorem dX7_best_193 : decode cX7_best 193 = .ok (.iload 10, 2) := by decide +kernel
theorem dX7_best_195 : decode cX7_best 195 = .ok (.ifCond .eq 10, 3) := by decide +kernel
theorem dX7_best_198 : decode cX7_best 198 = .ok (.aload_n 0, 1) := by decide +kernel
theorem dX7_best_199 : decode cX7_best 199 = .ok (.getfield 153, 3) := by decide +kernel
theorem dX7_best_202 : decode cX7_best 202 = .ok (.goto 5, 3) := by decide +kernel
theorem dX7_best_205 : decode cX7_best 205 = .ok (.iload 5, 2) := by decide +kernel
theorem dX7_best_207 : decode cX7_best 207 = .ok (.istore 5, 2) := by decide +kernel
theorem dX7_best_209 : decode cX7_best 209 = .ok (.iload 10, 2) := by decide +kernel
theorem dX7_best_211 : decode cX7_best 211 = .ok (.ifCond .eq 10, 3) := by decide +kernel
theorem dX7_best_214 : decode cX7_best 214 = .ok (.aload_n 0, 1) := by decide +kernel
theorem dX7_best_215 : decode cX7_best 215 = .ok (.getfield 144, 3) := by decide +kernel
theorem dX7_best_218 : decode cX7_best 218 = .ok (.goto 5, 3) := by decide +kernel
theorem dX7_best_221 : decode cX7_best 221 = .ok (.iload 6, 2) := by decide +kernel
theorem dX7_best_223 : decode cX7_best 223 = .ok (.istore 6, 2) := by decide +kernel
theorem dX7_best_225 : decode cX7_best 225 = .ok (.iload 10, 2) := by decide +kernel
theorem dX7_best_227 : decode cX7_best 227 = .ok (.ifCond .eq 8, 3) := by decide +kernel
theorem dX7_best_230 : decode cX7_best 230 = .ok (.iload 9, 2) := by decide +kernel
theorem dX7_best_232 : decode cX7_best 232 = .ok (.goto 5, 3) := by decide +kernel
theorem dX7_best_235 : decode cX7_best 235 = .ok (.iload 7, 2) := by decide +kernel
theorem dX7_best_237 : decode cX7_best 237 = .ok (.istore 7, 2) := by decide +kernel
theorem dX7_best_239 : decode cX7_best 239 = .ok (.iinc 8 1, 3) := by decide +kernel
theorem dX7_best_242 : decode cX7_best 242 = .ok (.goto (-192), 3) := by decide +kernel
theorem dX7_best_245 : decode cX7_best 245 = .ok (.aload_n 0, 1) := by decide +kernel
theorem dX7_best_246 : decode cX7_best 246 = .ok (.getfield 13, 3) := by decide +kernel
theorem dX7_best_249 : decode cX7_best 249 = .ok (.iconst 5, 1) := by decide +kernel
theorem dX7_best_250 : decode cX7_best 250 = .ok (.iload_n 1, 1) := by decide +kernel
theorem dX7_best_251 : decode cX7_best 251 = .ok (.imul, 1) := by decide +kernel
theorem dX7_best_252 : decode cX7_best 252 = .ok (.iconst 3, 1) := by decide +kernel
theorem dX7_best_253 : decode cX7_best 253 = .ok (.iadd, 1) := by decide +kernel
theorem dX7_best_254 : decode cX7_best 254 = .ok (.iload_n 3, 1) := by decide +kernel
theorem dX7_best_255 : decode cX7_best 255 = .ok (.iastore, 1) := by decide +kernel
theorem dX7_best_256 : decode cX7_best 256 = .ok (.iload_n 2, 1) := by decide +kernel
theorem dX7_best_257 : decode cX7_best 257 = .ok (.ifCond .ne 8, 3) := by decide +kernel
theorem dX7_best_260 : decode cX7_best 260 = .ok (.iload 4, 2) := by decide +kernel
theorem dX7_best_262 : decode cX7_best 262 = .ok (.goto 5, 3) := by decide +kernel
theorem dX7_best_265 : decode cX7_best 265 = .ok (.iload 6, 2) := by decide +kernel
theorem dX7_best_267 : decode cX7_best 267 = .ok (.ireturn, 1) := by decide +kernel
theorem dX7_count_0 : decode cX7_count 0 = .ok (.iconst 0, 1) := by decide +kernel
theorem dX7_count_1 : decode cX7_count 1 = .ok (.istore_n 2, 1) := by decide +kernel
theorem dX7_count_2 : decode cX7_count 2 = .ok (.iconst 0, 1) := by decide +kernel
theorem dX7_count_3 : decode cX7_count 3 = .ok (.istore_n 3, 1) := by decide +kernel
theorem dX7_count_4 : decode cX7_count 4 = .ok (.iload_n 3, 1) := by decide +kernel
theorem dX7_count_5 : decode cX7_count 5 = .ok (.aload_n 0, 1) := by decide +kernel
theorem dX7_count_6 : decode cX7_count 6 = .ok (.getfield 13, 3) := by decide +kernel
theorem dX7_count_9 : decode cX7_count 9 = .ok (.bipush 20, 2) := by decide +kernel
theorem dX7_count_11 : decode cX7_count 11 = .ok (.iaload, 1) := by decide +kernel
theorem dX7_count_12 : decode cX7_count 12 = .ok (.if_icmp .ge 22, 3) := by decide +kernel
theorem dX7_count_15 : decode cX7_count 15 = .ok (.iload_n 2, 1) := by decide +kernel
theorem dX7_count_16 : decode cX7_count 16 = .ok (.aload_n 0, 1) := by decide +kernel
theorem dX7_count_17 : decode cX7_count 17 = .ok (.getfield 13, 3) := by decide +kernel
theorem dX7_count_20 : decode cX7_count 20 = .ok (.iconst 5, 1) := by decide +kernel
theorem dX7_count_21 : decode cX7_count 21 = .ok (.iload_n 3, 1) := by decide +kernel
theorem dX7_count_22 : decode cX7_count 22 = .ok (.imul, 1) := by decide +kernel
theorem dX7_count_23 : decode cX7_count 23 = .ok (.iconst 4, 1) := by decide +kernel
theorem dX7_count_24 : decode cX7_count 24 = .ok (.iadd, 1) := by decide +kernel
theorem dX7_count_25 : decode cX7_count 25 = .ok (.iaload, 1) := by decide +kernel
theorem dX7_count_26 : decode cX7_count 26 = .ok (.iadd, 1) := by decide +kernel
theorem dX7_count_27 : decode cX7_count 27 = .ok (.istore_n 2, 1) := by decide +kernel
theorem dX7_count_28 : decode cX7_count 28 = .ok (.iinc 3 1, 3) := by decide +kernel
theorem dX7_count_31 : decode cX7_count 31 = .ok (.goto (-27), 3) := by decide +kernel
theorem dX7_count_34 : decode cX7_count 34 = .ok (.iload_n 1, 1) := by decide +kernel
theorem dX7_count_35 : decode cX7_count 35 = .ok (.tableswitch 73 0 6 #[41, 49, 49, 49, 61, 66, 71], 41) := by decide +kernel
theorem dX7_count_76 : decode cX7_count 76 = .ok (.aload_n 0, 1) := by decide +kernel
theorem dX7_count_77 : decode cX7_count 77 = .ok (.getfield 13, 3) := by decide +kernel
theorem dX7_count_80 : decode cX7_count 80 = .ok (.bipush 20, 2) := by decide +kernel
theorem dX7_count_82 : decode cX7_count 82 = .ok (.iaload, 1) := by decide +kernel
theorem dX7_count_83 : decode cX7_count 83 = .ok (.ireturn, 1) := by decide +kernel
theorem dX7_count_84 : decode cX7_count 84 = .ok (.aload_n 0, 1) := by decide +kernel
theorem dX7_count_85 : decode cX7_count 85 = .ok (.getfield 13, 3) := by decide +kernel
theorem dX7_count_88 : decode cX7_count 88 = .ok (.bipush 21, 2) := by decide +kernel
theorem dX7_count_90 : decode cX7_count 90 = .ok (.iload_n 1, 1) := by decide +kernel
theorem dX7_count_91 : decode cX7_count 91 = .ok (.iadd, 1) := by decide +kernel
theorem dX7_count_92 : decode cX7_count 92 = .ok (.iconst 1, 1) := by decide +kernel
theorem dX7_count_93 : decode cX7_count 93 = .ok (.isub, 1) := by decide +kernel
theorem dX7_count_94 : decode cX7_count 94 = .ok (.iaload, 1) := by decide +kernel
theorem dX7_count_95 : decode cX7_count 95 = .ok (.ireturn, 1) := by decide +kernel
theorem dX7_count_96 : decode cX7_count 96 = .ok (.aload_n 0, 1) := by decide +kernel
theorem dX7_count_97 : decode cX7_count 97 = .ok (.getfield 100, 3) := by decide +kernel
theorem dX7_count_100 : decode cX7_count 100 = .ok (.ireturn, 1) := by decide +kernel
theorem dX7_count_101 : decode cX7_count 101 = .ok (.aload_n 0, 1) := by decide +kernel
theorem dX7_count_102 : decode cX7_count 102 = .ok (.getfield 65, 3) := by decide +kernel
theorem dX7_count_105 : decode cX7_count 105 = .ok (.ireturn, 1) := by decide +kernel
theorem dX7_count_106 : decode cX7_count 106 = .ok (.iload_n 2, 1) := by decide +kernel
theorem dX7_count_107 : decode cX7_count 107 = .ok (.ireturn, 1) := by decide +kernel
theorem dX7_count_108 : decode cX7_count 108 = .ok (.iconst (-1), 1) := by decide +kernel
theorem dX7_count_109 : decode cX7_count 109 = .ok (.ireturn, 1) := by decide +kernel
theorem dJ6_bitCount_0f7a4_0 : decode cJ6_bitCount_0f7a4 0 = .ok (.iload_n 0, 1) := by decide +kernel
theorem dJ6_bitCount_0f7a4_1 : decode cJ6_bitCount_0f7a4 1 = .ok (.iload_n 0, 1) := by decide +kernel
theorem dJ6_bitCount_0f7a4_2 : decode cJ6_bitCount_0f7a4 2 = .ok (.iconst 1, 1) := by decide +kernel
theorem dJ6_bitCount_0f7a4_3 : decode cJ6_bitCount_0f7a4 3 = .ok (.iushr, 1) := by decide +kernel
theorem dJ6_bitCount_0f7a4_4 : decode cJ6_bitCount_0f7a4 4 = .ok (.ldc_w 265, 3) := by decide +kernel
theorem dJ6_bitCount_0f7a4_7 : decode cJ6_bitCount_0f7a4 7 = .ok (.iand, 1) := by decide +kernel
theorem dJ6_bitCount_0f7a4_8 : decode cJ6_bitCount_0f7a4 8 = .ok (.isub, 1) := by decide +kernel
theorem dJ6_bitCount_0f7a4_9 : decode cJ6_bitCount_0f7a4 9 = .ok (.istore_n 0, 1) := by decide +kernel
theorem dJ6_bitCount_0f7a4_10 : decode cJ6_bitCount_0f7a4 10 = .ok (.iload_n 0, 1) := by decide +kernel
theorem dJ6_bitCount_0f7a4_11 : decode cJ6_bitCount_0f7a4 11 = .ok (.ldc_w 266, 3) := by decide +kernel
theorem dJ6_bitCount_0f7a4_14 : decode cJ6_bitCount_0f7a4 14 = .ok (.iand, 1) := by decide +kernel
theorem dJ6_bitCount_0f7a4_15 : decode cJ6_bitCount_0f7a4 15 = .ok (.iload_n 0, 1) := by decide +kernel
theorem dJ6_bitCount_0f7a4_16 : decode cJ6_bitCount_0f7a4 16 = .ok (.iconst 2, 1) := by decide +kernel
theorem dJ6_bitCount_0f7a4_17 : decode cJ6_bitCount_0f7a4 17 = .ok (.iushr, 1) := by decide +kernel
theorem dJ6_bitCount_0f7a4_18 : decode cJ6_bitCount_0f7a4 18 = .ok (.ldc_w 266, 3) := by decide +kernel
theorem dJ6_bitCount_0f7a4_21 : decode cJ6_bitCount_0f7a4 21 = .ok (.iand, 1) := by decide +kernel
theorem dJ6_bitCount_0f7a4_22 : decode cJ6_bitCount_0f7a4 22 = .ok (.iadd, 1) := by decide +kernel
theorem dJ6_bitCount_0f7a4_23 : decode cJ6_bitCount_0f7a4 23 = .ok (.istore_n 0, 1) := by decide +kernel
theorem dJ6_bitCount_0f7a4_24 : decode cJ6_bitCount_0f7a4 24 = .ok (.iload_n 0, 1) := by decide +kernel
theorem dJ6_bitCount_0f7a4_25 : decode cJ6_bitCount_0f7a4 25 = .ok (.iload_n 0, 1) := by decide +kernel
theorem dJ6_bitCount_0f7a4_26 : decode cJ6_bitCount_0f7a4 26 = .ok (.iconst 4, 1) := by decide +kernel
theorem dJ6_bitCount_0f7a4_27 : decode cJ6_bitCount_0f7a4 27 = .ok (.iushr, 1) := by decide +kernel
theorem dJ6_bitCount_0f7a4_28 : decode cJ6_bitCount_0f7a4 28 = .ok (.iadd, 1) := by decide +kernel
theorem dJ6_bitCount_0f7a4_29 : decode cJ6_bitCount_0f7a4 29 = .ok (.ldc_w 267, 3) := by decide +kernel
theorem dJ6_bitCount_0f7a4_32 : decode cJ6_bitCount_0f7a4 32 = .ok (.iand, 1) := by decide +kernel
theorem dJ6_bitCount_0f7a4_33 : decode cJ6_bitCount_0f7a4 33 = .ok (.istore_n 0, 1) := by decide +kernel
theorem dJ6_bitCount_0f7a4_34 : decode cJ6_bitCount_0f7a4 34 = .ok (.iload_n 0, 1) := by decide +kernel
theorem dJ6_bitCount_0f7a4_35 : decode cJ6_bitCount_0f7a4 35 = .ok (.iload_n 0, 1) := by decide +kernel
theorem dJ6_bitCount_0f7a4_36 : decode cJ6_bitCount_0f7a4 36 = .ok (.bipush 8, 2) := by decide +kernel
theorem dJ6_bitCount_0f7a4_38 : decode cJ6_bitCount_0f7a4 38 = .ok (.iushr, 1) := by decide +kernel
theorem dJ6_bitCount_0f7a4_39 : decode cJ6_bitCount_0f7a4 39 = .ok (.iadd, 1) := by decide +kernel
theorem dJ6_bitCount_0f7a4_40 : decode cJ6_bitCount_0f7a4 40 = .ok (.istore_n 0, 1) := by decide +kernel
theorem dJ6_bitCount_0f7a4_41 : decode cJ6_bitCount_0f7a4 41 = .ok (.iload_n 0, 1) := by decide +kernel
theorem dJ6_bitCount_0f7a4_42 : decode cJ6_bitCount_0f7a4 42 = .ok (.iload_n 0, 1) := by decide +kernel
theorem dJ6_bitCount_0f7a4_43 : decode cJ6_bitCount_0f7a4 43 = .ok (.bipush 16, 2) := by decide +kernel
theorem dJ6_bitCount_0f7a4_45 : decode cJ6_bitCount_0f7a4 45 = .ok (.iushr, 1) := by decide +kernel
theorem dJ6_bitCount_0f7a4_46 : decode cJ6_bitCount_0f7a4 46 = .ok (.iadd, 1) := by decide +kernel
theorem dJ6_bitCount_0f7a4_47 : decode cJ6_bitCount_0f7a4 47 = .ok (.istore_n 0, 1) := by decide +kernel
theorem dJ6_bitCount_0f7a4_48 : decode cJ6_bitCount_0f7a4 48 = .ok (.iload_n 0, 1) := by decide +kernel
theorem dJ6_bitCount_0f7a4_49 : decode cJ6_bitCount_0f7a4 49 = .ok (.bipush 63, 2) := by decide +kernel
theorem dJ6_bitCount_0f7a4_51 : decode cJ6_bitCount_0f7a4 51 = .ok (.iand, 1) := by decide +kernel
theorem dJ6_bitCount_0f7a4_52 : decode cJ6_bitCount_0f7a4 52 = .ok (.ireturn, 1) := by decide +kernel
theorem dJ9_max_7cf53_0 : decode cJ9_max_7cf53 0 = .ok (.iload_n 0, 1) := by decide +kernel
theorem dJ9_max_7cf53_1 : decode cJ9_max_7cf53 1 = .ok (.iload_n 1, 1) := by decide +kernel
theorem dJ9_max_7cf53_2 : decode cJ9_max_7cf53 2 = .ok (.if_icmp .lt 7, 3) := by decide +kernel
theorem dJ9_max_7cf53_5 : decode cJ9_max_7cf53 5 = .ok (.iload_n 0, 1) := by decide +kernel
theorem dJ9_max_7cf53_6 : decode cJ9_max_7cf53 6 = .ok (.goto 4, 3) := by decide +kernel
theorem dJ9_max_7cf53_9 : decode cJ9_max_7cf53 9 = .ok (.iload_n 1, 1) := by decide +kernel
theorem dJ9_max_7cf53_10 : decode cJ9_max_7cf53 10 = .ok (.ireturn, 1) := by decide +kernel
theorem dJ9_min_7cf53_0 : decode cJ9_min_7cf53 0 = .ok (.iload_n 0, 1) := by decide +kernel
theorem dJ9_min_7cf53_1 : decode cJ9_min_7cf53 1 = .ok (.iload_n 1, 1) := by decide +kernel
theorem dJ9_min_7cf53_2 : decode cJ9_min_7cf53 2 = .ok (.if_icmp .gt 7, 3) := by decide +kernel
theorem dJ9_min_7cf53_5 : decode cJ9_min_7cf53 5 = .ok (.iload_n 0, 1) := by decide +kernel
theorem dJ9_min_7cf53_6 : decode cJ9_min_7cf53 6 = .ok (.goto 4, 3) := by decide +kernel
theorem dJ9_min_7cf53_9 : decode cJ9_min_7cf53 9 = .ok (.iload_n 1, 1) := by decide +kernel
theorem dJ9_min_7cf53_10 : decode cJ9_min_7cf53 10 = .ok (.ireturn, 1) := by decide +kernel
theorem dJ7_fill_53178_0 : decode cJ7_fill_53178 0 = .ok (.iconst 0, 1) := by decide +kernel
theorem dJ7_fill_53178_1 : decode cJ7_fill_53178 1 = .ok (.istore_n 2, 1) := by decide +kernel
theorem dJ7_fill_53178_2 : decode cJ7_fill_53178 2 = .ok (.aload_n 0, 1) := by decide +kernel
theorem dJ7_fill_53178_3 : decode cJ7_fill_53178 3 = .ok (.arraylength, 1) := by decide +kernel
theorem dJ7_fill_53178_4 : decode cJ7_fill_53178 4 = .ok (.istore_n 3, 1) := by decide +kernel
theorem dJ7_fill_53178_5 : decode cJ7_fill_53178 5 = .ok (.iload_n 2, 1) := by decide +kernel
theorem dJ7_fill_53178_6 : decode cJ7_fill_53178 6 = .ok (.iload_n 3, 1) := by decide +kernel
theorem dJ7_fill_53178_7 : decode cJ7_fill_53178 7 = .ok (.if_icmp .ge 13, 3) := by decide +kernel
theorem dJ7_fill_53178_10 : decode cJ7_fill_53178 10 = .ok (.aload_n 0, 1) := by decide +kernel
theorem dJ7_fill_53178_11 : decode cJ7_fill_53178 11 = .ok (.iload_n 2, 1) := by decide +kernel
theorem dJ7_fill_53178_12 : decode cJ7_fill_53178 12 = .ok (.iload_n 1, 1) := by decide +kernel
theorem dJ7_fill_53178_13 : decode cJ7_fill_53178 13 = .ok (.iastore, 1) := by decide +kernel
theorem dJ7_fill_53178_14 : decode cJ7_fill_53178 14 = .ok (.iinc 2 1, 3) := by decide +kernel
theorem dJ7_fill_53178_17 : decode cJ7_fill_53178 17 = .ok (.goto (-12), 3) := by decide +kernel
theorem dJ7_fill_53178_20 : decode cJ7_fill_53178 20 = .ok (.return_, 1) := by decide +kernel
