theorem dX0_isPrime_0 : decode cX0_isPrime 0 = .ok (.getstatic 9, 3) := by decide +kernel
theorem dX0_isPrime_3 : decode cX0_isPrime 3 = .ok (.astore_n 1, 1) := by decide +kernel
theorem dX0_isPrime_4 : decode cX0_isPrime 4 = .ok (.aload_n 1, 1) := by decide +kernel
theorem dX0_isPrime_5 : decode cX0_isPrime 5 = .ok (.arraylength, 1) := by decide +kernel
theorem dX0_isPrime_6 : decode cX0_isPrime 6 = .ok (.istore_n 2, 1) := by decide +kernel
theorem dX0_isPrime_7 : decode cX0_isPrime 7 = .ok (.iconst 0, 1) := by decide +kernel
theorem dX0_isPrime_8 : decode cX0_isPrime 8 = .ok (.istore_n 3, 1) := by decide +kernel
theorem dX0_isPrime_9 : decode cX0_isPrime 9 = .ok (.iload_n 3, 1) := by decide +kernel
theorem dX0_isPrime_10 : decode cX0_isPrime 10 = .ok (.iload_n 2, 1) := by decide +kernel
theorem dX0_isPrime_11 : decode cX0_isPrime 11 = .ok (.if_icmp .ge 22, 3) := by decide +kernel
theorem dX0_isPrime_14 : decode cX0_isPrime 14 = .ok (.aload_n 1, 1) := by decide +kernel
theorem dX0_isPrime_15 : decode cX0_isPrime 15 = .ok (.iload_n 3, 1) := by decide +kernel
theorem dX0_isPrime_16 : decode cX0_isPrime 16 = .ok (.iaload, 1) := by decide +kernel
theorem dX0_isPrime_17 : decode cX0_isPrime 17 = .ok (.istore 4, 2) := by decide +kernel
theorem dX0_isPrime_19 : decode cX0_isPrime 19 = .ok (.iload 4, 2) := by decide +kernel
theorem dX0_isPrime_21 : decode cX0_isPrime 21 = .ok (.iload_n 0, 1) := by decide +kernel
theorem dX0_isPrime_22 : decode cX0_isPrime 22 = .ok (.if_icmp .ne 5, 3) := by decide +kernel
theorem dX0_isPrime_25 : decode cX0_isPrime 25 = .ok (.iconst 1, 1) := by decide +kernel
theorem dX0_isPrime_26 : decode cX0_isPrime 26 = .ok (.ireturn, 1) := by decide +kernel
theorem dX0_isPrime_27 : decode cX0_isPrime 27 = .ok (.iinc 3 1, 3) := by decide +kernel
theorem dX0_isPrime_30 : decode cX0_isPrime 30 = .ok (.goto (-21), 3) := by decide +kernel
theorem dX0_isPrime_33 : decode cX0_isPrime 33 = .ok (.iconst 0, 1) := by decide +kernel
theorem dX0_isPrime_34 : decode cX0_isPrime 34 = .ok (.ireturn, 1) := by decide +kernel
theorem dX0_rest_0 : decode cX0_rest 0 = .ok (.iload_n 1, 1) := by decide +kernel
theorem dX0_rest_1 : decode cX0_rest 1 = .ok (.iconst 1, 1) := by decide +kernel
theorem dX0_rest_2 : decode cX0_rest 2 = .ok (.if_icmp .ge 5, 3) := by decide +kernel
theorem dX0_rest_5 : decode cX0_rest 5 = .ok (.iconst 0, 1) := by decide +kernel
theorem dX0_rest_6 : decode cX0_rest 6 = .ok (.ireturn, 1) := by decide +kernel
theorem dX0_rest_7 : decode cX0_rest 7 = .ok (.iload_n 0, 1) := by decide +kernel
theorem dX0_rest_8 : decode cX0_rest 8 = .ok (.iload_n 1, 1) := by decide +kernel
theorem dX0_rest_9 : decode cX0_rest 9 = .ok (.irem, 1) := by decide +kernel
theorem dX0_rest_10 : decode cX0_rest 10 = .ok (.istore_n 2, 1) := by decide +kernel
theorem dX0_rest_11 : decode cX0_rest 11 = .ok (.iload_n 2, 1) := by decide +kernel
theorem dX0_rest_12 : decode cX0_rest 12 = .ok (.ifCond .ge 9, 3) := by decide +kernel
theorem dX0_rest_15 : decode cX0_rest 15 = .ok (.iload_n 2, 1) := by decide +kernel
theorem dX0_rest_16 : decode cX0_rest 16 = .ok (.iload_n 1, 1) := by decide +kernel
theorem dX0_rest_17 : decode cX0_rest 17 = .ok (.iadd, 1) := by decide +kernel
theorem dX0_rest_18 : decode cX0_rest 18 = .ok (.goto 4, 3) := by decide +kernel
theorem dX0_rest_21 : decode cX0_rest 21 = .ok (.iload_n 2, 1) := by decide +kernel
theorem dX0_rest_22 : decode cX0_rest 22 = .ok (.ireturn, 1) := by decide +kernel
theorem dX0_roundedUp_0 : decode cX0_roundedUp 0 = .ok (.iload_n 1, 1) := by decide +kernel
theorem dX0_roundedUp_1 : decode cX0_roundedUp 1 = .ok (.iconst 1, 1) := by decide +kernel
theorem dX0_roundedUp_2 : decode cX0_roundedUp 2 = .ok (.if_icmp .ge 7, 3) := by decide +kernel
theorem dX0_roundedUp_5 : decode cX0_roundedUp 5 = .ok (.iconst 0, 1) := by decide +kernel
theorem dX0_roundedUp_6 : decode cX0_roundedUp 6 = .ok (.goto 10, 3) := by decide +kernel
theorem dX0_roundedUp_9 : decode cX0_roundedUp 9 = .ok (.iload_n 0, 1) := by decide +kernel
theorem dX0_roundedUp_10 : decode cX0_roundedUp 10 = .ok (.iload_n 1, 1) := by decide +kernel
theorem dX0_roundedUp_11 : decode cX0_roundedUp 11 = .ok (.iadd, 1) := by decide +kernel
theorem dX0_roundedUp_12 : decode cX0_roundedUp 12 = .ok (.iconst 1, 1) := by decide +kernel
theorem dX0_roundedUp_13 : decode cX0_roundedUp 13 = .ok (.isub, 1) := by decide +kernel
theorem dX0_roundedUp_14 : decode cX0_roundedUp 14 = .ok (.iload_n 1, 1) := by decide +kernel
theorem dX0_roundedUp_15 : decode cX0_roundedUp 15 = .ok (.idiv, 1) := by decide +kernel
theorem dX0_roundedUp_16 : decode cX0_roundedUp 16 = .ok (.ireturn, 1) := by decide +kernel
theorem dX0_squareBits_0 : decode cX0_squareBits 0 = .ok (.iconst 0, 1) := by decide +kernel
theorem dX0_squareBits_1 : decode cX0_squareBits 1 = .ok (.istore_n 1, 1) := by decide +kernel
theorem dX0_squareBits_2 : decode cX0_squareBits 2 = .ok (.iconst 1, 1) := by decide +kernel
theorem dX0_squareBits_3 : decode cX0_squareBits 3 = .ok (.istore_n 2, 1) := by decide +kernel
theorem dX0_squareBits_4 : decode cX0_squareBits 4 = .ok (.iload_n 2, 1) := by decide +kernel
theorem dX0_squareBits_5 : decode cX0_squareBits 5 = .ok (.iload_n 0, 1) := by decide +kernel
theorem dX0_squareBits_6 : decode cX0_squareBits 6 = .ok (.if_icmp .ge 19, 3) := by decide +kernel
theorem dX0_squareBits_9 : decode cX0_squareBits 9 = .ok (.iload_n 1, 1) := by decide +kernel
theorem dX0_squareBits_10 : decode cX0_squareBits 10 = .ok (.iconst 1, 1) := by decide +kernel
theorem dX0_squareBits_11 : decode cX0_squareBits 11 = .ok (.iload_n 2, 1) := by decide +kernel
theorem dX0_squareBits_12 : decode cX0_squareBits 12 = .ok (.iload_n 2, 1) := by decide +kernel
theorem dX0_squareBits_13 : decode cX0_squareBits 13 = .ok (.imul, 1) := by decide +kernel
theorem dX0_squareBits_14 : decode cX0_squareBits 14 = .ok (.iload_n 0, 1) := by decide +kernel
theorem dX0_squareBits_15 : decode cX0_squareBits 15 = .ok (.irem, 1) := by decide +kernel
theorem dX0_squareBits_16 : decode cX0_squareBits 16 = .ok (.ishl, 1) := by decide +kernel
theorem dX0_squareBits_17 : decode cX0_squareBits 17 = .ok (.ior, 1) := by decide +kernel
theorem dX0_squareBits_18 : decode cX0_squareBits 18 = .ok (.istore_n 1, 1) := by decide +kernel
theorem dX0_squareBits_19 : decode cX0_squareBits 19 = .ok (.iinc 2 1, 3) := by decide +kernel
theorem dX0_squareBits_22 : decode cX0_squareBits 22 = .ok (.goto (-18), 3) := by decide +kernel
theorem dX0_squareBits_25 : decode cX0_squareBits 25 = .ok (.iload_n 1, 1) := by decide +kernel
theorem dX0_squareBits_26 : decode cX0_squareBits 26 = .ok (.ireturn, 1) := by decide +kernel
theorem dX0_signOf_0 : decode cX0_signOf 0 = .ok (.iload_n 0, 1) := by decide +kernel
theorem dX0_signOf_1 : decode cX0_signOf 1 = .ok (.iload_n 1, 1) := by decide +kernel
theorem dX0_signOf_2 : decode cX0_signOf 2 = .ok (.invokestatic 13, 3) := by decide +kernel
theorem dX0_signOf_5 : decode cX0_signOf 5 = .ok (.istore_n 2, 1) := by decide +kernel
theorem dX0_signOf_6 : decode cX0_signOf 6 = .ok (.iload_n 2, 1) := by decide +kernel
theorem dX0_signOf_7 : decode cX0_signOf 7 = .ok (.ifCond .ne 5, 3) := by decide +kernel
theorem dX0_signOf_10 : decode cX0_signOf 10 = .ok (.iconst 0, 1) := by decide +kernel
theorem dX0_signOf_11 : decode cX0_signOf 11 = .ok (.ireturn, 1) := by decide +kernel
theorem dX0_signOf_12 : decode cX0_signOf 12 = .ok (.iload_n 1, 1) := by decide +kernel
theorem dX0_signOf_13 : decode cX0_signOf 13 = .ok (.invokestatic 19, 3) := by decide +kernel
theorem dX0_signOf_16 : decode cX0_signOf 16 = .ok (.iload_n 2, 1) := by decide +kernel
theorem dX0_signOf_17 : decode cX0_signOf 17 = .ok (.ishr, 1) := by decide +kernel
theorem dX0_signOf_18 : decode cX0_signOf 18 = .ok (.iconst 1, 1) := by decide +kernel
theorem dX0_signOf_19 : decode cX0_signOf 19 = .ok (.iand, 1) := by decide +kernel
theorem dX0_signOf_20 : decode cX0_signOf 20 = .ok (.iconst 1, 1) := by decide +kernel
theorem dX0_signOf_21 : decode cX0_signOf 21 = .ok (.if_icmp .ne 7, 3) := by decide +kernel
theorem dX0_signOf_24 : decode cX0_signOf 24 = .ok (.iconst 1, 1) := by decide +kernel
theorem dX0_signOf_25 : decode cX0_signOf 25 = .ok (.goto 4, 3) := by decide +kernel
theorem dX0_signOf_28 : decode cX0_signOf 28 = .ok (.iconst (-1), 1) := by decide +kernel
theorem dX0_signOf_29 : decode cX0_signOf 29 = .ok (.ireturn, 1) := by decide +kernel
theorem dX0_isRoot_0 : decode cX0_isRoot 0 = .ok (.iload_n 0, 1) := by decide +kernel
theorem dX0_isRoot_1 : decode cX0_isRoot 1 = .ok (.iconst 2, 1) := by decide +kernel
theorem dX0_isRoot_2 : decode cX0_isRoot 2 = .ok (.if_icmp .lt 8, 3) := by decide +kernel
theorem dX0_isRoot_5 : decode cX0_isRoot 5 = .ok (.iload_n 0, 1) := by decide +kernel
theorem dX0_isRoot_6 : decode cX0_isRoot 6 = .ok (.iload_n 1, 1) := by decide +kernel
theorem dX0_isRoot_7 : decode cX0_isRoot 7 = .ok (.if_icmp .lt 5, 3) := by decide +kernel
theorem dX0_isRoot_10 : decode cX0_isRoot 10 = .ok (.iconst 0, 1) := by decide +kernel
theorem dX0_isRoot_11 : decode cX0_isRoot 11 = .ok (.ireturn, 1) := by decide +kernel
theorem dX0_isRoot_12 : decode cX0_isRoot 12 = .ok (.iconst 0, 1) := by decide +kernel
theorem dX0_isRoot_13 : decode cX0_isRoot 13 = .ok (.istore_n 2, 1) := by decide +kernel
theorem dX0_isRoot_14 : decode cX0_isRoot 14 = .ok (.iconst 1, 1) := by decide +kernel
theorem dX0_isRoot_15 : decode cX0_isRoot 15 = .ok (.istore_n 3, 1) := by decide +kernel
theorem dX0_isRoot_16 : decode cX0_isRoot 16 = .ok (.iconst 1, 1) := by decide +kernel
theorem dX0_isRoot_17 : decode cX0_isRoot 17 = .ok (.istore 4, 2) := by decide +kernel
theorem dX0_isRoot_19 : decode cX0_isRoot 19 = .ok (.iload 4, 2) := by decide +kernel
theorem dX0_isRoot_21 : decode cX0_isRoot 21 = .ok (.iload_n 1, 1) := by decide +kernel
theorem dX0_isRoot_22 : decode cX0_isRoot 22 = .ok (.if_icmp .ge 32, 3) := by decide +kernel
theorem dX0_isRoot_25 : decode cX0_isRoot 25 = .ok (.iload_n 3, 1) := by decide +kernel
theorem dX0_isRoot_26 : decode cX0_isRoot 26 = .ok (.iload_n 0, 1) := by decide +kernel
theorem dX0_isRoot_27 : decode cX0_isRoot 27 = .ok (.imul, 1) := by decide +kernel
theorem dX0_isRoot_28 : decode cX0_isRoot 28 = .ok (.iload_n 1, 1) := by decide +kernel
theorem dX0_isRoot_29 : decode cX0_isRoot 29 = .ok (.irem, 1) := by decide +kernel
theorem dX0_isRoot_30 : decode cX0_isRoot 30 = .ok (.istore_n 3, 1) := by decide +kernel
theorem dX0_isRoot_31 : decode cX0_isRoot 31 = .ok (.iload_n 2, 1) := by decide +kernel
theorem dX0_isRoot_32 : decode cX0_isRoot 32 = .ok (.iload_n 3, 1) := by decide +kernel
theorem dX0_isRoot_33 : decode cX0_isRoot 33 = .ok (.ishr, 1) := by decide +kernel
theorem dX0_isRoot_34 : decode cX0_isRoot 34 = .ok (.iconst 1, 1) := by decide +kernel
theorem dX0_isRoot_35 : decode cX0_isRoot 35 = .ok (.iand, 1) := by decide +kernel
theorem dX0_isRoot_36 : decode cX0_isRoot 36 = .ok (.iconst 1, 1) := by decide +kernel
theorem dX0_isRoot_37 : decode cX0_isRoot 37 = .ok (.if_icmp .ne 5, 3) := by decide +kernel
theorem dX0_isRoot_40 : decode cX0_isRoot 40 = .ok (.iconst 0, 1) := by decide +kernel
theorem dX0_isRoot_41 : decode cX0_isRoot 41 = .ok (.ireturn, 1) := by decide +kernel
theorem dX0_isRoot_42 : decode cX0_isRoot 42 = .ok (.iload_n 2, 1) := by decide +kernel
theorem dX0_isRoot_43 : decode cX0_isRoot 43 = .ok (.iconst 1, 1) := by decide +kernel
theorem dX0_isRoot_44 : decode cX0_isRoot 44 = .ok (.iload_n 3, 1) := by decide +kernel
theorem dX0_isRoot_45 : decode cX0_isRoot 45 = .ok (.ishl, 1) := by decide +kernel
theorem dX0_isRoot_46 : decode cX0_isRoot 46 = .ok (.ior, 1) := by decide +kernel
theorem dX0_isRoot_47 : decode cX0_isRoot 47 = .ok (.istore_n 2, 1) := by decide +kernel
theorem dX0_isRoot_48 : decode cX0_isRoot 48 = .ok (.iinc 4 1, 3) := by decide +kernel
theorem dX0_isRoot_51 : decode cX0_isRoot 51 = .ok (.goto (-32), 3) := by decide +kernel
theorem dX0_isRoot_54 : decode cX0_isRoot 54 = .ok (.iconst 1, 1) := by decide +kernel
theorem dX0_isRoot_55 : decode cX0_isRoot 55 = .ok (.ireturn, 1) := by decide +kernel
theorem dX0_lowestRoot_0 : decode cX0_lowestRoot 0 = .ok (.iconst 2, 1) := by decide +kernel
theorem dX0_lowestRoot_1 : decode cX0_lowestRoot 1 = .ok (.istore_n 1, 1) := by decide +kernel
theorem dX0_lowestRoot_2 : decode cX0_lowestRoot 2 = .ok (.iload_n 1, 1) := by decide +kernel
theorem dX0_lowestRoot_3 : decode cX0_lowestRoot 3 = .ok (.iload_n 0, 1) := by decide +kernel
theorem dX0_lowestRoot_4 : decode cX0_lowestRoot 4 = .ok (.if_icmp .ge 19, 3) := by decide +kernel
theorem dX0_lowestRoot_7 : decode cX0_lowestRoot 7 = .ok (.iload_n 1, 1) := by decide +kernel
theorem dX0_lowestRoot_8 : decode cX0_lowestRoot 8 = .ok (.iload_n 0, 1) := by decide +kernel
theorem dX0_lowestRoot_9 : decode cX0_lowestRoot 9 = .ok (.invokestatic 23, 3) := by decide +kernel
theorem dX0_lowestRoot_12 : decode cX0_lowestRoot 12 = .ok (.ifCond .eq 5, 3) := by decide +kernel
theorem dX0_lowestRoot_15 : decode cX0_lowestRoot 15 = .ok (.iload_n 1, 1) := by decide +kernel
theorem dX0_lowestRoot_16 : decode cX0_lowestRoot 16 = .ok (.ireturn, 1) := by decide +kernel
theorem dX0_lowestRoot_17 : decode cX0_lowestRoot 17 = .ok (.iinc 1 1, 3) := by decide +kernel
theorem dX0_lowestRoot_20 : decode cX0_lowestRoot 20 = .ok (.goto (-18), 3) := by decide +kernel
theorem dX0_lowestRoot_23 : decode cX0_lowestRoot 23 = .ok (.iconst (-1), 1) := by decide +kernel
theorem dX0_lowestRoot_24 : decode cX0_lowestRoot 24 = .ok (.ireturn, 1) := by decide +kernel
theorem dX0_rootCount_0 : decode cX0_rootCount 0 = .ok (.iconst 0, 1) := by decide +kernel
theorem dX0_rootCount_1 : decode cX0_rootCount 1 = .ok (.istore_n 1, 1) := by decide +kernel
theorem dX0_rootCount_2 : decode cX0_rootCount 2 = .ok (.iconst 2, 1) := by decide +kernel
theorem dX0_rootCount_3 : decode cX0_rootCount 3 = .ok (.istore_n 2, 1) := by decide +kernel
theorem dX0_rootCount_4 : decode cX0_rootCount 4 = .ok (.iload_n 2, 1) := by decide +kernel
theorem dX0_rootCount_5 : decode cX0_rootCount 5 = .ok (.iload_n 0, 1) := by decide +kernel
theorem dX0_rootCount_6 : decode cX0_rootCount 6 = .ok (.if_icmp .ge 20, 3) := by decide +kernel
theorem dX0_rootCount_9 : decode cX0_rootCount 9 = .ok (.iload_n 2, 1) := by decide +kernel
theorem dX0_rootCount_10 : decode cX0_rootCount 10 = .ok (.iload_n 0, 1) := by decide +kernel
theorem dX0_rootCount_11 : decode cX0_rootCount 11 = .ok (.invokestatic 23, 3) := by decide +kernel
theorem dX0_rootCount_14 : decode cX0_rootCount 14 = .ok (.ifCond .eq 6, 3) := by decide +kernel
theorem dX0_rootCount_17 : decode cX0_rootCount 17 = .ok (.iinc 1 1, 3) := by decide +kernel
theorem dX0_rootCount_20 : decode cX0_rootCount 20 = .ok (.iinc 2 1, 3) := by decide +kernel
theorem dX0_rootCount_23 : decode cX0_rootCount 23 = .ok (.goto (-19), 3) := by decide +kernel
theorem dX0_rootCount_26 : decode cX0_rootCount 26 = .ok (.iload_n 1, 1) := by decide +kernel
theorem dX0_rootCount_27 : decode cX0_rootCount 27 = .ok (.ireturn, 1) := by decide +kernel
theorem dX1_init_0 : decode cX1_init 0 = .ok (.aload_n 0, 1) := by decide +kernel
theorem dX1_init_1 : decode cX1_init 1 = .ok (.invokespecial 3, 3) := by decide +kernel
theorem dX1_init_4 : decode cX1_init 4 = .ok (.aload_n 0, 1) := by decide +kernel
theorem dX1_init_5 : decode cX1_init 5 = .ok (.iload_n 1, 1) := by decide +kernel
theorem dX1_init_6 : decode cX1_init 6 = .ok (.putfield 9, 3) := by decide +kernel
theorem dX1_init_9 : decode cX1_init 9 = .ok (.aload_n 0, 1) := by decide +kernel
theorem dX1_init_10 : decode cX1_init 10 = .ok (.iload_n 2, 1) := by decide +kernel
theorem dX1_init_11 : decode cX1_init 11 = .ok (.putfield 15, 3) := by decide +kernel
theorem dX1_init_14 : decode cX1_init 14 = .ok (.aload_n 0, 1) := by decide +kernel
theorem dX1_init_15 : decode cX1_init 15 = .ok (.iload_n 3, 1) := by decide +kernel
theorem dX1_init_16 : decode cX1_init 16 = .ok (.putfield 18, 3) := by decide +kernel
theorem dX1_init_19 : decode cX1_init 19 = .ok (.aload_n 0, 1) := by decide +kernel
theorem dX1_init_20 : decode cX1_init 20 = .ok (.iload 4, 2) := by decide +kernel
theorem dX1_init_22 : decode cX1_init 22 = .ok (.putfield 21, 3) := by decide +kernel
theorem dX1_init_25 : decode cX1_init 25 = .ok (.aload_n 0, 1) := by decide +kernel
theorem dX1_init_26 : decode cX1_init 26 = .ok (.iload 5, 2) := by decide +kernel
theorem dX1_init_28 : decode cX1_init 28 = .ok (.putfield 24, 3) := by decide +kernel
theorem dX1_init_31 : decode cX1_init 31 = .ok (.aload_n 0, 1) := by decide +kernel
theorem dX1_init_32 : decode cX1_init 32 = .ok (.iload_n 1, 1) := by decide +kernel
theorem dX1_init_33 : decode cX1_init 33 = .ok (.iconst 1, 1) := by decide +kernel
theorem dX1_init_34 : decode cX1_init 34 = .ok (.if_icmp .ne 9, 3) := by decide +kernel
theorem dX1_init_37 : decode cX1_init 37 = .ok (.iload_n 2, 1) := by decide +kernel
theorem dX1_init_38 : decode cX1_init 38 = .ok (.iconst 1, 1) := by decide +kernel
theorem dX1_init_39 : decode cX1_init 39 = .ok (.isub, 1) := by decide +kernel
theorem dX1_init_40 : decode cX1_init 40 = .ok (.goto 4, 3) := by decide +kernel
theorem dX1_init_43 : decode cX1_init 43 = .ok (.iload_n 2, 1) := by decide +kernel
theorem dX1_init_44 : decode cX1_init 44 = .ok (.putfield 27, 3) := by decide +kernel
theorem dX1_init_47 : decode cX1_init 47 = .ok (.aload_n 0, 1) := by decide +kernel
theorem dX1_init_48 : decode cX1_init 48 = .ok (.iload_n 1, 1) := by decide +kernel
theorem dX1_init_49 : decode cX1_init 49 = .ok (.iload_n 2, 1) := by decide +kernel
theorem dX1_init_50 : decode cX1_init 50 = .ok (.iload_n 3, 1) := by decide +kernel
theorem dX1_init_51 : decode cX1_init 51 = .ok (.invokestatic 30, 3) := by decide +kernel
theorem dX1_init_54 : decode cX1_init 54 = .ok (.putfield 34, 3) := by decide +kernel
theorem dX1_init_57 : decode cX1_init 57 = .ok (.return_, 1) := by decide +kernel
theorem dX1_rowOf_0 : decode cX1_rowOf 0 = .ok (.bipush 31, 2) := by decide +kernel
theorem dX1_rowOf_2 : decode cX1_rowOf 2 = .ok (.newarray .int, 2) := by decide +kernel
theorem dX1_rowOf_4 : decode cX1_rowOf 4 = .ok (.astore_n 3, 1) := by decide +kernel
theorem dX1_rowOf_5 : decode cX1_rowOf 5 = .ok (.iconst 1, 1) := by decide +kernel
theorem dX1_rowOf_6 : decode cX1_rowOf 6 = .ok (.istore 4, 2) := by decide +kernel
theorem dX1_rowOf_8 : decode cX1_rowOf 8 = .ok (.iload_n 1, 1) := by decide +kernel
theorem dX1_rowOf_9 : decode cX1_rowOf 9 = .ok (.invokestatic 38, 3) := by decide +kernel
theorem dX1_rowOf_12 : decode cX1_rowOf 12 = .ok (.istore 5, 2) := by decide +kernel
theorem dX1_rowOf_14 : decode cX1_rowOf 14 = .ok (.iconst 0, 1) := by decide +kernel
theorem dX1_rowOf_15 : decode cX1_rowOf 15 = .ok (.istore 6, 2) := by decide +kernel
theorem dX1_rowOf_17 : decode cX1_rowOf 17 = .ok (.iload 6, 2) := by decide +kernel
theorem dX1_rowOf_19 : decode cX1_rowOf 19 = .ok (.iload_n 1, 1) := by decide +kernel
theorem dX1_rowOf_20 : decode cX1_rowOf 20 = .ok (.if_icmp .ge 82, 3) := by decide +kernel
theorem dX1_rowOf_23 : decode cX1_rowOf 23 = .ok (.iload 6, 2) := by decide +kernel
theorem dX1_rowOf_25 : decode cX1_rowOf 25 = .ok (.aload_n 3, 1) := by decide +kernel
theorem dX1_rowOf_26 : decode cX1_rowOf 26 = .ok (.arraylength, 1) := by decide +kernel
theorem dX1_rowOf_27 : decode cX1_rowOf 27 = .ok (.if_icmp .ge 75, 3) := by decide +kernel
theorem dX1_rowOf_30 : decode cX1_rowOf 30 = .ok (.iload 4, 2) := by decide +kernel
theorem dX1_rowOf_32 : decode cX1_rowOf 32 = .ok (.iload_n 2, 1) := by decide +kernel
theorem dX1_rowOf_33 : decode cX1_rowOf 33 = .ok (.imul, 1) := by decide +kernel
theorem dX1_rowOf_34 : decode cX1_rowOf 34 = .ok (.iload_n 1, 1) := by decide +kernel
theorem dX1_rowOf_35 : decode cX1_rowOf 35 = .ok (.invokestatic 44, 3) := by decide +kernel
theorem dX1_rowOf_38 : decode cX1_rowOf 38 = .ok (.istore 4, 2) := by decide +kernel
theorem dX1_rowOf_40 : decode cX1_rowOf 40 = .ok (.iload_n 0, 1) := by decide +kernel
theorem dX1_rowOf_41 : decode cX1_rowOf 41 = .ok (.ifCond .ne 21, 3) := by decide +kernel
theorem dX1_rowOf_44 : decode cX1_rowOf 44 = .ok (.aload_n 3, 1) := by decide +kernel
theorem dX1_rowOf_45 : decode cX1_rowOf 45 = .ok (.iload 6, 2) := by decide +kernel
theorem dX1_rowOf_47 : decode cX1_rowOf 47 = .ok (.iload_n 2, 1) := by decide +kernel
theorem dX1_rowOf_48 : decode cX1_rowOf 48 = .ok (.iload 6, 2) := by decide +kernel
theorem dX1_rowOf_50 : decode cX1_rowOf 50 = .ok (.imul, 1) := by decide +kernel
theorem dX1_rowOf_51 : decode cX1_rowOf 51 = .ok (.iload 6, 2) := by decide +kernel
theorem dX1_rowOf_53 : decode cX1_rowOf 53 = .ok (.imul, 1) := by decide +kernel
theorem dX1_rowOf_54 : decode cX1_rowOf 54 = .ok (.iload_n 1, 1) := by decide +kernel
theorem dX1_rowOf_55 : decode cX1_rowOf 55 = .ok (.invokestatic 44, 3) := by decide +kernel
theorem dX1_rowOf_58 : decode cX1_rowOf 58 = .ok (.iastore, 1) := by decide +kernel
theorem dX1_rowOf_59 : decode cX1_rowOf 59 = .ok (.goto 37, 3) := by decide +kernel
theorem dX1_rowOf_62 : decode cX1_rowOf 62 = .ok (.iload_n 0, 1) := by decide +kernel
theorem dX1_rowOf_63 : decode cX1_rowOf 63 = .ok (.iconst 1, 1) := by decide +kernel
theorem dX1_rowOf_64 : decode cX1_rowOf 64 = .ok (.if_icmp .ne 12, 3) := by decide +kernel
theorem dX1_rowOf_67 : decode cX1_rowOf 67 = .ok (.aload_n 3, 1) := by decide +kernel
theorem dX1_rowOf_68 : decode cX1_rowOf 68 = .ok (.iload 6, 2) := by decide +kernel
theorem dX1_rowOf_70 : decode cX1_rowOf 70 = .ok (.iload 4, 2) := by decide +kernel
theorem dX1_rowOf_72 : decode cX1_rowOf 72 = .ok (.iastore, 1) := by decide +kernel
theorem dX1_rowOf_73 : decode cX1_rowOf 73 = .ok (.goto 23, 3) := by decide +kernel
theorem dX1_rowOf_76 : decode cX1_rowOf 76 = .ok (.aload_n 3, 1) := by decide +kernel
theorem dX1_rowOf_77 : decode cX1_rowOf 77 = .ok (.iload 6, 2) := by decide +kernel
theorem dX1_rowOf_79 : decode cX1_rowOf 79 = .ok (.iload 5, 2) := by decide +kernel
theorem dX1_rowOf_81 : decode cX1_rowOf 81 = .ok (.iload 6, 2) := by decide +kernel
theorem dX1_rowOf_83 : decode cX1_rowOf 83 = .ok (.ishr, 1) := by decide +kernel
theorem dX1_rowOf_84 : decode cX1_rowOf 84 = .ok (.iconst 1, 1) := by decide +kernel
theorem dX1_rowOf_85 : decode cX1_rowOf 85 = .ok (.iand, 1) := by decide +kernel
theorem dX1_rowOf_86 : decode cX1_rowOf 86 = .ok (.iconst 1, 1) := by decide +kernel
theorem dX1_rowOf_87 : decode cX1_rowOf 87 = .ok (.if_icmp .ne 7, 3) := by decide +kernel
theorem dX1_rowOf_90 : decode cX1_rowOf 90 = .ok (.iload_n 2, 1) := by decide +kernel
theorem dX1_rowOf_91 : decode cX1_rowOf 91 = .ok (.goto 4, 3) := by decide +kernel
theorem dX1_rowOf_94 : decode cX1_rowOf 94 = .ok (.iconst 0, 1) := by decide +kernel
theorem dX1_rowOf_95 : decode cX1_rowOf 95 = .ok (.iastore, 1) := by decide +kernel
theorem dX1_rowOf_96 : decode cX1_rowOf 96 = .ok (.iinc 6 1, 3) := by decide +kernel
theorem dX1_rowOf_99 : decode cX1_rowOf 99 = .ok (.goto (-82), 3) := by decide +kernel
theorem dX1_rowOf_102 : decode cX1_rowOf 102 = .ok (.aload_n 3, 1) := by decide +kernel
theorem dX1_rowOf_103 : decode cX1_rowOf 103 = .ok (.areturn, 1) := by decide +kernel
theorem dX1_factorFits_0 : decode cX1_factorFits 0 = .ok (.iload_n 0, 1) := by decide +kernel
theorem dX1_factorFits_1 : decode cX1_factorFits 1 = .ok (.ifCond .ne 19, 3) := by decide +kernel
theorem dX1_factorFits_4 : decode cX1_factorFits 4 = .ok (.iload_n 2, 1) := by decide +kernel
theorem dX1_factorFits_5 : decode cX1_factorFits 5 = .ok (.iconst 1, 1) := by decide +kernel
theorem dX1_factorFits_6 : decode cX1_factorFits 6 = .ok (.if_icmp .lt 12, 3) := by decide +kernel
theorem dX1_factorFits_9 : decode cX1_factorFits 9 = .ok (.iload_n 2, 1) := by decide +kernel
theorem dX1_factorFits_10 : decode cX1_factorFits 10 = .ok (.iload_n 1, 1) := by decide +kernel
theorem dX1_factorFits_11 : decode cX1_factorFits 11 = .ok (.if_icmp .ge 7, 3) := by decide +kernel
theorem dX1_factorFits_14 : decode cX1_factorFits 14 = .ok (.iconst 1, 1) := by decide +kernel
theorem dX1_factorFits_15 : decode cX1_factorFits 15 = .ok (.goto 4, 3) := by decide +kernel
theorem dX1_factorFits_18 : decode cX1_factorFits 18 = .ok (.iconst 0, 1) := by decide +kernel
theorem dX1_factorFits_19 : decode cX1_factorFits 19 = .ok (.ireturn, 1) := by decide +kernel
theorem dX1_factorFits_20 : decode cX1_factorFits 20 = .ok (.iload_n 0, 1) := by decide +kernel
theorem dX1_factorFits_21 : decode cX1_factorFits 21 = .ok (.iconst 1, 1) := by decide +kernel
theorem dX1_factorFits_22 : decode cX1_factorFits 22 = .ok (.if_icmp .ne 9, 3) := by decide +kernel
theorem dX1_factorFits_25 : decode cX1_factorFits 25 = .ok (.iload_n 2, 1) := by decide +kernel
theorem dX1_factorFits_26 : decode cX1_factorFits 26 = .ok (.iload_n 1, 1) := by decide +kernel
theorem dX1_factorFits_27 : decode cX1_factorFits 27 = .ok (.invokestatic 48, 3) := by decide +kernel
theorem dX1_factorFits_30 : decode cX1_factorFits 30 = .ok (.ireturn, 1) := by decide +kernel
theorem dX1_factorFits_31 : decode cX1_factorFits 31 = .ok (.iload_n 2, 1) := by decide +kernel
theorem dX1_factorFits_32 : decode cX1_factorFits 32 = .ok (.iconst 1, 1) := by decide +kernel
theorem dX1_factorFits_33 : decode cX1_factorFits 33 = .ok (.if_icmp .lt 13, 3) := by decide +kernel
theorem dX1_factorFits_36 : decode cX1_factorFits 36 = .ok (.iload_n 2, 1) := by decide +kernel
theorem dX1_factorFits_37 : decode cX1_factorFits 37 = .ok (.bipush 9, 2) := by decide +kernel
theorem dX1_factorFits_39 : decode cX1_factorFits 39 = .ok (.if_icmp .gt 7, 3) := by decide +kernel
theorem dX1_factorFits_42 : decode cX1_factorFits 42 = .ok (.iconst 1, 1) := by decide +kernel
theorem dX1_factorFits_43 : decode cX1_factorFits 43 = .ok (.goto 4, 3) := by decide +kernel
theorem dX1_factorFits_46 : decode cX1_factorFits 46 = .ok (.iconst 0, 1) := by decide +kernel
theorem dX1_factorFits_47 : decode cX1_factorFits 47 = .ok (.ireturn, 1) := by decide +kernel
theorem dX1_offsetFits_0 : decode cX1_offsetFits 0 = .ok (.iload_n 1, 1) := by decide +kernel
theorem dX1_offsetFits_1 : decode cX1_offsetFits 1 = .ok (.ifCond .lt 12, 3) := by decide +kernel
theorem dX1_offsetFits_4 : decode cX1_offsetFits 4 = .ok (.iload_n 1, 1) := by decide +kernel
theorem dX1_offsetFits_5 : decode cX1_offsetFits 5 = .ok (.iload_n 0, 1) := by decide +kernel
theorem dX1_offsetFits_6 : decode cX1_offsetFits 6 = .ok (.if_icmp .ge 7, 3) := by decide +kernel
theorem dX1_offsetFits_9 : decode cX1_offsetFits 9 = .ok (.iconst 1, 1) := by decide +kernel
theorem dX1_offsetFits_10 : decode cX1_offsetFits 10 = .ok (.goto 4, 3) := by decide +kernel
theorem dX1_offsetFits_13 : decode cX1_offsetFits 13 = .ok (.iconst 0, 1) := by decide +kernel
theorem dX1_offsetFits_14 : decode cX1_offsetFits 14 = .ok (.ireturn, 1) := by decide +kernel
theorem dX1_wellsFit_0 : decode cX1_wellsFit 0 = .ok (.iload_n 0, 1) := by decide +kernel
theorem dX1_wellsFit_1 : decode cX1_wellsFit 1 = .ok (.iconst 1, 1) := by decide +kernel
theorem dX1_wellsFit_2 : decode cX1_wellsFit 2 = .ok (.if_icmp .lt 13, 3) := by decide +kernel
theorem dX1_wellsFit_5 : decode cX1_wellsFit 5 = .ok (.iload_n 0, 1) := by decide +kernel
theorem dX1_wellsFit_6 : decode cX1_wellsFit 6 = .ok (.bipush 40, 2) := by decide +kernel
theorem dX1_wellsFit_8 : decode cX1_wellsFit 8 = .ok (.if_icmp .gt 7, 3) := by decide +kernel
theorem dX1_wellsFit_11 : decode cX1_wellsFit 11 = .ok (.iconst 1, 1) := by decide +kernel
theorem dX1_wellsFit_12 : decode cX1_wellsFit 12 = .ok (.goto 4, 3) := by decide +kernel
theorem dX1_wellsFit_15 : decode cX1_wellsFit 15 = .ok (.iconst 0, 1) := by decide +kernel
theorem dX1_wellsFit_16 : decode cX1_wellsFit 16 = .ok (.ireturn, 1) := by decide +kernel
theorem dX1_allows_0 : decode cX1_allows 0 = .ok (.iload_n 1, 1) := by decide +kernel
theorem dX1_allows_1 : decode cX1_allows 1 = .ok (.tableswitch 54 0 2 #[27, 40, 49], 27) := by decide +kernel
theorem dX1_allows_28 : decode cX1_allows 28 = .ok (.aload_n 0, 1) := by decide +kernel
theorem dX1_allows_29 : decode cX1_allows 29 = .ok (.getfield 9, 3) := by decide +kernel
theorem dX1_allows_32 : decode cX1_allows 32 = .ok (.aload_n 0, 1) := by decide +kernel
theorem dX1_allows_33 : decode cX1_allows 33 = .ok (.getfield 15, 3) := by decide +kernel
theorem dX1_allows_36 : decode cX1_allows 36 = .ok (.iload_n 2, 1) := by decide +kernel
theorem dX1_allows_37 : decode cX1_allows 37 = .ok (.invokestatic 52, 3) := by decide +kernel
theorem dX1_allows_40 : decode cX1_allows 40 = .ok (.ireturn, 1) := by decide +kernel
theorem dX1_allows_41 : decode cX1_allows 41 = .ok (.aload_n 0, 1) := by decide +kernel
theorem dX1_allows_42 : decode cX1_allows 42 = .ok (.getfield 15, 3) := by decide +kernel
theorem dX1_allows_45 : decode cX1_allows 45 = .ok (.iload_n 2, 1) := by decide +kernel
theorem dX1_allows_46 : decode cX1_allows 46 = .ok (.invokestatic 56, 3) := by decide +kernel
theorem dX1_allows_49 : decode cX1_allows 49 = .ok (.ireturn, 1) := by decide +kernel
theorem dX1_allows_50 : decode cX1_allows 50 = .ok (.iload_n 2, 1) := by decide +kernel
theorem dX1_allows_51 : decode cX1_allows 51 = .ok (.invokestatic 59, 3) := by decide +kernel
theorem dX1_allows_54 : decode cX1_allows 54 = .ok (.ireturn, 1) := by decide +kernel
theorem dX1_allows_55 : decode cX1_allows 55 = .ok (.iconst 0, 1) := by decide +kernel
theorem dX1_allows_56 : decode cX1_allows 56 = .ok (.ireturn, 1) := by decide +kernel
theorem dX1_measure_0 : decode cX1_measure 0 = .ok (.iload_n 1, 1) := by decide +kernel
theorem dX1_measure_1 : decode cX1_measure 1 = .ok (.lookupswitch 37 #[(0, 27), (1, 32)], 27) := by decide +kernel
theorem dX1_measure_28 : decode cX1_measure 28 = .ok (.aload_n 0, 1) := by decide +kernel
theorem dX1_measure_29 : decode cX1_measure 29 = .ok (.getfield 18, 3) := by decide +kernel
theorem dX1_measure_32 : decode cX1_measure 32 = .ok (.ireturn, 1) := by decide +kernel
theorem dX1_measure_33 : decode cX1_measure 33 = .ok (.aload_n 0, 1) := by decide +kernel
theorem dX1_measure_34 : decode cX1_measure 34 = .ok (.getfield 21, 3) := by decide +kernel
theorem dX1_measure_37 : decode cX1_measure 37 = .ok (.ireturn, 1) := by decide +kernel
theorem dX1_measure_38 : decode cX1_measure 38 = .ok (.aload_n 0, 1) := by decide +kernel
theorem dX1_measure_39 : decode cX1_measure 39 = .ok (.getfield 24, 3) := by decide +kernel
theorem dX1_measure_42 : decode cX1_measure 42 = .ok (.ireturn, 1) := by decide +kernel
theorem dX1_withMeasure_0 : decode cX1_withMeasure 0 = .ok (.iload_n 1, 1) := by decide +kernel
theorem dX1_withMeasure_1 : decode cX1_withMeasure 1 = .ok (.lookupswitch 77 #[(0, 27), (1, 52)], 27) := by decide +kernel
theorem dX1_withMeasure_28 : decode cX1_withMeasure 28 = .ok (.new 10, 3) := by decide +kernel
theorem dX1_withMeasure_31 : decode cX1_withMeasure 31 = .ok (.dup, 1) := by decide +kernel
theorem dX1_withMeasure_32 : decode cX1_withMeasure 32 = .ok (.aload_n 0, 1) := by decide +kernel
theorem dX1_withMeasure_33 : decode cX1_withMeasure 33 = .ok (.getfield 9, 3) := by decide +kernel
theorem dX1_withMeasure_36 : decode cX1_withMeasure 36 = .ok (.aload_n 0, 1) := by decide +kernel
theorem dX1_withMeasure_37 : decode cX1_withMeasure 37 = .ok (.getfield 15, 3) := by decide +kernel
theorem dX1_withMeasure_40 : decode cX1_withMeasure 40 = .ok (.iload_n 2, 1) := by decide +kernel
theorem dX1_withMeasure_41 : decode cX1_withMeasure 41 = .ok (.aload_n 0, 1) := by decide +kernel
theorem dX1_withMeasure_42 : decode cX1_withMeasure 42 = .ok (.getfield 21, 3) := by decide +kernel
theorem dX1_withMeasure_45 : decode cX1_withMeasure 45 = .ok (.aload_n 0, 1) := by decide +kernel
theorem dX1_withMeasure_46 : decode cX1_withMeasure 46 = .ok (.getfield 24, 3) := by decide +kernel
theorem dX1_withMeasure_49 : decode cX1_withMeasure 49 = .ok (.invokespecial 63, 3) := by decide +kernel
theorem dX1_withMeasure_52 : decode cX1_withMeasure 52 = .ok (.areturn, 1) := by decide +kernel
theorem dX1_withMeasure_53 : decode cX1_withMeasure 53 = .ok (.new 10, 3) := by decide +kernel
theorem dX1_withMeasure_56 : decode cX1_withMeasure 56 = .ok (.dup, 1) := by decide +kernel
theorem dX1_withMeasure_57 : decode cX1_withMeasure 57 = .ok (.aload_n 0, 1) := by decide +kernel
theorem dX1_withMeasure_58 : decode cX1_withMeasure 58 = .ok (.getfield 9, 3) := by decide +kernel
theorem dX1_withMeasure_61 : decode cX1_withMeasure 61 = .ok (.aload_n 0, 1) := by decide +kernel
theorem dX1_withMeasure_62 : decode cX1_withMeasure 62 = .ok (.getfield 15, 3) := by decide +kernel
theorem dX1_withMeasure_65 : decode cX1_withMeasure 65 = .ok (.aload_n 0, 1) := by decide +kernel
theorem dX1_withMeasure_66 : decode cX1_withMeasure 66 = .ok (.getfield 18, 3) := by decide +kernel
theorem dX1_withMeasure_69 : decode cX1_withMeasure 69 = .ok (.iload_n 2, 1) := by decide +kernel
theorem dX1_withMeasure_70 : decode cX1_withMeasure 70 = .ok (.aload_n 0, 1) := by decide +kernel
theorem dX1_withMeasure_71 : decode cX1_withMeasure 71 = .ok (.getfield 24, 3) := by decide +kernel
theorem dX1_withMeasure_74 : decode cX1_withMeasure 74 = .ok (.invokespecial 63, 3) := by decide +kernel
theorem dX1_withMeasure_77 : decode cX1_withMeasure 77 = .ok (.areturn, 1) := by decide +kernel
theorem dX1_withMeasure_78 : decode cX1_withMeasure 78 = .ok (.new 10, 3) := by decide +kernel
theorem dX1_withMeasure_81 : decode cX1_withMeasure 81 = .ok (.dup, 1) := by decide +kernel
theorem dX1_withMeasure_82 : decode cX1_withMeasure 82 = .ok (.aload_n 0, 1) := by decide +kernel
theorem dX1_withMeasure_83 : decode cX1_withMeasure 83 = .ok (.getfield 9, 3) := by decide +kernel
theorem dX1_withMeasure_86 : decode cX1_withMeasure 86 = .ok (.aload_n 0, 1) := by decide +kernel
theorem dX1_withMeasure_87 : decode cX1_withMeasure 87 = .ok (.getfield 15, 3) := by decide +kernel
theorem dX1_withMeasure_90 : decode cX1_withMeasure 90 = .ok (.aload_n 0, 1) := by decide +kernel
theorem dX1_withMeasure_91 : decode cX1_withMeasure 91 = .ok (.getfield 18, 3) := by decide +kernel
theorem dX1_withMeasure_94 : decode cX1_withMeasure 94 = .ok (.aload_n 0, 1) := by decide +kernel
theorem dX1_withMeasure_95 : decode cX1_withMeasure 95 = .ok (.getfield 21, 3) := by decide +kernel
theorem dX1_withMeasure_98 : decode cX1_withMeasure 98 = .ok (.iload_n 2, 1) := by decide +kernel
theorem dX1_withMeasure_99 : decode cX1_withMeasure 99 = .ok (.invokespecial 63, 3) := by decide +kernel
theorem dX1_withMeasure_102 : decode cX1_withMeasure 102 = .ok (.areturn, 1) := by decide +kernel
theorem dX1_hasWell_0 : decode cX1_hasWell 0 = .ok (.iload_n 1, 1) := by decide +kernel
theorem dX1_hasWell_1 : decode cX1_hasWell 1 = .ok (.ifCond .lt 15, 3) := by decide +kernel
theorem dX1_hasWell_4 : decode cX1_hasWell 4 = .ok (.iload_n 1, 1) := by decide +kernel
theorem dX1_hasWell_5 : decode cX1_hasWell 5 = .ok (.aload_n 0, 1) := by decide +kernel
theorem dX1_hasWell_6 : decode cX1_hasWell 6 = .ok (.getfield 24, 3) := by decide +kernel
theorem dX1_hasWell_9 : decode cX1_hasWell 9 = .ok (.if_icmp .ge 7, 3) := by decide +kernel
theorem dX1_hasWell_12 : decode cX1_hasWell 12 = .ok (.iconst 1, 1) := by decide +kernel
theorem dX1_hasWell_13 : decode cX1_hasWell 13 = .ok (.goto 4, 3) := by decide +kernel
theorem dX1_hasWell_16 : decode cX1_hasWell 16 = .ok (.iconst 0, 1) := by decide +kernel
theorem dX1_hasWell_17 : decode cX1_hasWell 17 = .ok (.ireturn, 1) := by decide +kernel
theorem dX1_isRest_0 : decode cX1_isRest 0 = .ok (.iload_n 1, 1) := by decide +kernel
theorem dX1_isRest_1 : decode cX1_isRest 1 = .ok (.ifCond .lt 15, 3) := by decide +kernel
theorem dX1_isRest_4 : decode cX1_isRest 4 = .ok (.iload_n 1, 1) := by decide +kernel
theorem dX1_isRest_5 : decode cX1_isRest 5 = .ok (.aload_n 0, 1) := by decide +kernel
theorem dX1_isRest_6 : decode cX1_isRest 6 = .ok (.getfield 15, 3) := by decide +kernel
theorem dX1_isRest_9 : decode cX1_isRest 9 = .ok (.if_icmp .ge 7, 3) := by decide +kernel
theorem dX1_isRest_12 : decode cX1_isRest 12 = .ok (.iconst 1, 1) := by decide +kernel
theorem dX1_isRest_13 : decode cX1_isRest 13 = .ok (.goto 4, 3) := by decide +kernel
theorem dX1_isRest_16 : decode cX1_isRest 16 = .ok (.iconst 0, 1) := by decide +kernel
theorem dX1_isRest_17 : decode cX1_isRest 17 = .ok (.ireturn, 1) := by decide +kernel
theorem dX1_depthAt_0 : decode cX1_depthAt 0 = .ok (.iload_n 1, 1) := by decide +kernel
theorem dX1_depthAt_1 : decode cX1_depthAt 1 = .ok (.aload_n 0, 1) := by decide +kernel
theorem dX1_depthAt_2 : decode cX1_depthAt 2 = .ok (.getfield 27, 3) := by decide +kernel
theorem dX1_depthAt_5 : decode cX1_depthAt 5 = .ok (.invokestatic 44, 3) := by decide +kernel
theorem dX1_depthAt_8 : decode cX1_depthAt 8 = .ok (.istore_n 2, 1) := by decide +kernel
theorem dX1_depthAt_9 : decode cX1_depthAt 9 = .ok (.iload_n 2, 1) := by decide +kernel
theorem dX1_depthAt_10 : decode cX1_depthAt 10 = .ok (.aload_n 0, 1) := by decide +kernel
theorem dX1_depthAt_11 : decode cX1_depthAt 11 = .ok (.getfield 34, 3) := by decide +kernel
theorem dX1_depthAt_14 : decode cX1_depthAt 14 = .ok (.arraylength, 1) := by decide +kernel
theorem dX1_depthAt_15 : decode cX1_depthAt 15 = .ok (.if_icmp .ge 12, 3) := by decide +kernel
theorem dX1_depthAt_18 : decode cX1_depthAt 18 = .ok (.aload_n 0, 1) := by decide +kernel
theorem dX1_depthAt_19 : decode cX1_depthAt 19 = .ok (.getfield 34, 3) := by decide +kernel
theorem dX1_depthAt_22 : decode cX1_depthAt 22 = .ok (.iload_n 2, 1) := by decide +kernel
theorem dX1_depthAt_23 : decode cX1_depthAt 23 = .ok (.iaload, 1) := by decide +kernel
theorem dX1_depthAt_24 : decode cX1_depthAt 24 = .ok (.goto 4, 3) := by decide +kernel
theorem dX1_depthAt_27 : decode cX1_depthAt 27 = .ok (.iconst 0, 1) := by decide +kernel
theorem dX1_depthAt_28 : decode cX1_depthAt 28 = .ok (.ireturn, 1) := by decide +kernel
theorem dX1_wellDepth_0 : decode cX1_wellDepth 0 = .ok (.aload_n 0, 1) := by decide +kernel
theorem dX1_wellDepth_1 : decode cX1_wellDepth 1 = .ok (.iload_n 1, 1) := by decide +kernel
theorem dX1_wellDepth_2 : decode cX1_wellDepth 2 = .ok (.aload_n 0, 1) := by decide +kernel
theorem dX1_wellDepth_3 : decode cX1_wellDepth 3 = .ok (.getfield 21, 3) := by decide +kernel
theorem dX1_wellDepth_6 : decode cX1_wellDepth 6 = .ok (.iadd, 1) := by decide +kernel
theorem dX1_wellDepth_7 : decode cX1_wellDepth 7 = .ok (.invokevirtual 66, 3) := by decide +kernel
theorem dX1_wellDepth_10 : decode cX1_wellDepth 10 = .ok (.ireturn, 1) := by decide +kernel
theorem dX1_greatestDepth_0 : decode cX1_greatestDepth 0 = .ok (.iconst 0, 1) := by decide +kernel
theorem dX1_greatestDepth_1 : decode cX1_greatestDepth 1 = .ok (.istore_n 1, 1) := by decide +kernel
theorem dX1_greatestDepth_2 : decode cX1_greatestDepth 2 = .ok (.iconst 0, 1) := by decide +kernel
theorem dX1_greatestDepth_3 : decode cX1_greatestDepth 3 = .ok (.istore_n 2, 1) := by decide +kernel
theorem dX1_greatestDepth_4 : decode cX1_greatestDepth 4 = .ok (.iload_n 2, 1) := by decide +kernel
theorem dX1_greatestDepth_5 : decode cX1_greatestDepth 5 = .ok (.aload_n 0, 1) := by decide +kernel
theorem dX1_greatestDepth_6 : decode cX1_greatestDepth 6 = .ok (.getfield 24, 3) := by decide +kernel
theorem dX1_greatestDepth_9 : decode cX1_greatestDepth 9 = .ok (.if_icmp .ge 19, 3) := by decide +kernel
theorem dX1_greatestDepth_12 : decode cX1_greatestDepth 12 = .ok (.iload_n 1, 1) := by decide +kernel
theorem dX1_greatestDepth_13 : decode cX1_greatestDepth 13 = .ok (.aload_n 0, 1) := by decide +kernel
theorem dX1_greatestDepth_14 : decode cX1_greatestDepth 14 = .ok (.iload_n 2, 1) := by decide +kernel
theorem dX1_greatestDepth_15 : decode cX1_greatestDepth 15 = .ok (.invokevirtual 69, 3) := by decide +kernel
theorem dX1_greatestDepth_18 : decode cX1_greatestDepth 18 = .ok (.invokestatic 72, 3) := by decide +kernel
theorem dX1_greatestDepth_21 : decode cX1_greatestDepth 21 = .ok (.istore_n 1, 1) := by decide +kernel
theorem dX1_greatestDepth_22 : decode cX1_greatestDepth 22 = .ok (.iinc 2 1, 3) := by decide +kernel
theorem dX1_greatestDepth_25 : decode cX1_greatestDepth 25 = .ok (.goto (-21), 3) := by decide +kernel
theorem dX1_greatestDepth_28 : decode cX1_greatestDepth 28 = .ok (.iload_n 1, 1) := by decide +kernel
theorem dX1_greatestDepth_29 : decode cX1_greatestDepth 29 = .ok (.ireturn, 1) := by decide +kernel
theorem dX1_depthsTogether_0 : decode cX1_depthsTogether 0 = .ok (.iconst 0, 1) := by decide +kernel
theorem dX1_depthsTogether_1 : decode cX1_depthsTogether 1 = .ok (.istore_n 1, 1) := by decide +kernel
theorem dX1_depthsTogether_2 : decode cX1_depthsTogether 2 = .ok (.iconst 0, 1) := by decide +kernel
theorem dX1_depthsTogether_3 : decode cX1_depthsTogether 3 = .ok (.istore_n 2, 1) := by decide +kernel
theorem dX1_depthsTogether_4 : decode cX1_depthsTogether 4 = .ok (.iload_n 2, 1) := by decide +kernel
theorem dX1_depthsTogether_5 : decode cX1_depthsTogether 5 = .ok (.aload_n 0, 1) := by decide +kernel
theorem dX1_depthsTogether_6 : decode cX1_depthsTogether 6 = .ok (.getfield 24, 3) := by decide +kernel
theorem dX1_depthsTogether_9 : decode cX1_depthsTogether 9 = .ok (.if_icmp .ge 17, 3) := by decide +kernel
theorem dX1_depthsTogether_12 : decode cX1_depthsTogether 12 = .ok (.iload_n 1, 1) := by decide +kernel
theorem dX1_depthsTogether_13 : decode cX1_depthsTogether 13 = .ok (.aload_n 0, 1) := by decide +kernel
theorem dX1_depthsTogether_14 : decode cX1_depthsTogether 14 = .ok (.iload_n 2, 1) := by decide +kernel
theorem dX1_depthsTogether_15 : decode cX1_depthsTogether 15 = .ok (.invokevirtual 69, 3) := by decide +kernel
theorem dX1_depthsTogether_18 : decode cX1_depthsTogether 18 = .ok (.iadd, 1) := by decide +kernel
theorem dX1_depthsTogether_19 : decode cX1_depthsTogether 19 = .ok (.istore_n 1, 1) := by decide +kernel
theorem dX1_depthsTogether_20 : decode cX1_depthsTogether 20 = .ok (.iinc 2 1, 3) := by decide +kernel
theorem dX1_depthsTogether_23 : decode cX1_depthsTogether 23 = .ok (.goto (-19), 3) := by decide +kernel
theorem dX1_depthsTogether_26 : decode cX1_depthsTogether 26 = .ok (.iload_n 1, 1) := by decide +kernel
theorem dX1_depthsTogether_27 : decode cX1_depthsTogether 27 = .ok (.ireturn, 1) := by decide +kernel
theorem dX1_unlikeDepths_0 : decode cX1_unlikeDepths 0 = .ok (.iconst 0, 1) := by decide +kernel
theorem dX1_unlikeDepths_1 : decode cX1_unlikeDepths 1 = .ok (.istore_n 1, 1) := by decide +kernel
theorem dX1_unlikeDepths_2 : decode cX1_unlikeDepths 2 = .ok (.iconst 0, 1) := by decide +kernel
theorem dX1_unlikeDepths_3 : decode cX1_unlikeDepths 3 = .ok (.istore_n 2, 1) := by decide +kernel
theorem dX1_unlikeDepths_4 : decode cX1_unlikeDepths 4 = .ok (.iload_n 2, 1) := by decide +kernel
theorem dX1_unlikeDepths_5 : decode cX1_unlikeDepths 5 = .ok (.aload_n 0, 1) := by decide +kernel
theorem dX1_unlikeDepths_6 : decode cX1_unlikeDepths 6 = .ok (.getfield 24, 3) := by decide +kernel
theorem dX1_unlikeDepths_9 : decode cX1_unlikeDepths 9 = .ok (.if_icmp .ge 19, 3) := by decide +kernel
theorem dX1_unlikeDepths_12 : decode cX1_unlikeDepths 12 = .ok (.iload_n 1, 1) := by decide +kernel
theorem dX1_unlikeDepths_13 : decode cX1_unlikeDepths 13 = .ok (.iconst 1, 1) := by decide +kernel
theorem dX1_unlikeDepths_14 : decode cX1_unlikeDepths 14 = .ok (.aload_n 0, 1) := by decide +kernel
theorem dX1_unlikeDepths_15 : decode cX1_unlikeDepths 15 = .ok (.iload_n 2, 1) := by decide +kernel
theorem dX1_unlikeDepths_16 : decode cX1_unlikeDepths 16 = .ok (.invokevirtual 69, 3) := by decide +kernel
theorem dX1_unlikeDepths_19 : decode cX1_unlikeDepths 19 = .ok (.ishl, 1) := by decide +kernel
theorem dX1_unlikeDepths_20 : decode cX1_unlikeDepths 20 = .ok (.ior, 1) := by decide +kernel
theorem dX1_unlikeDepths_21 : decode cX1_unlikeDepths 21 = .ok (.istore_n 1, 1) := by decide +kernel
theorem dX1_unlikeDepths_22 : decode cX1_unlikeDepths 22 = .ok (.iinc 2 1, 3) := by decide +kernel
theorem dX1_unlikeDepths_25 : decode cX1_unlikeDepths 25 = .ok (.goto (-21), 3) := by decide +kernel
theorem dX1_unlikeDepths_28 : decode cX1_unlikeDepths 28 = .ok (.iload_n 1, 1) := by decide +kernel
theorem dX1_unlikeDepths_29 : decode cX1_unlikeDepths 29 = .ok (.invokestatic 77, 3) := by decide +kernel
theorem dX1_unlikeDepths_32 : decode cX1_unlikeDepths 32 = .ok (.ireturn, 1) := by decide +kernel
theorem dX1_isMirrored_0 : decode cX1_isMirrored 0 = .ok (.iconst 0, 1) := by decide +kernel
theorem dX1_isMirrored_1 : decode cX1_isMirrored 1 = .ok (.istore_n 1, 1) := by decide +kernel
theorem dX1_isMirrored_2 : decode cX1_isMirrored 2 = .ok (.iload_n 1, 1) := by decide +kernel
theorem dX1_isMirrored_3 : decode cX1_isMirrored 3 = .ok (.aload_n 0, 1) := by decide +kernel
theorem dX1_isMirrored_4 : decode cX1_isMirrored 4 = .ok (.getfield 24, 3) := by decide +kernel
theorem dX1_isMirrored_7 : decode cX1_isMirrored 7 = .ok (.if_icmp .ge 31, 3) := by decide +kernel
theorem dX1_isMirrored_10 : decode cX1_isMirrored 10 = .ok (.aload_n 0, 1) := by decide +kernel
theorem dX1_isMirrored_11 : decode cX1_isMirrored 11 = .ok (.iload_n 1, 1) := by decide +kernel
theorem dX1_isMirrored_12 : decode cX1_isMirrored 12 = .ok (.invokevirtual 69, 3) := by decide +kernel
theorem dX1_isMirrored_15 : decode cX1_isMirrored 15 = .ok (.aload_n 0, 1) := by decide +kernel
theorem dX1_isMirrored_16 : decode cX1_isMirrored 16 = .ok (.aload_n 0, 1) := by decide +kernel
theorem dX1_isMirrored_17 : decode cX1_isMirrored 17 = .ok (.getfield 24, 3) := by decide +kernel
theorem dX1_isMirrored_20 : decode cX1_isMirrored 20 = .ok (.iconst 1, 1) := by decide +kernel
theorem dX1_isMirrored_21 : decode cX1_isMirrored 21 = .ok (.isub, 1) := by decide +kernel
theorem dX1_isMirrored_22 : decode cX1_isMirrored 22 = .ok (.iload_n 1, 1) := by decide +kernel
theorem dX1_isMirrored_23 : decode cX1_isMirrored 23 = .ok (.isub, 1) := by decide +kernel
theorem dX1_isMirrored_24 : decode cX1_isMirrored 24 = .ok (.invokevirtual 69, 3) := by decide +kernel
theorem dX1_isMirrored_27 : decode cX1_isMirrored 27 = .ok (.if_icmp .eq 5, 3) := by decide +kernel
theorem dX1_isMirrored_30 : decode cX1_isMirrored 30 = .ok (.iconst 0, 1) := by decide +kernel
theorem dX1_isMirrored_31 : decode cX1_isMirrored 31 = .ok (.ireturn, 1) := by decide +kernel
theorem dX1_isMirrored_32 : decode cX1_isMirrored 32 = .ok (.iinc 1 1, 3) := by decide +kernel
theorem dX1_isMirrored_35 : decode cX1_isMirrored 35 = .ok (.goto (-33), 3) := by decide +kernel
theorem dX1_isMirrored_38 : decode cX1_isMirrored 38 = .ok (.iconst 1, 1) := by decide +kernel
theorem dX1_isMirrored_39 : decode cX1_isMirrored 39 = .ok (.ireturn, 1) := by decide +kernel
theorem dX1_differenceAt_0 : decode cX1_differenceAt 0 = .ok (.aload_n 0, 1) := by decide +kernel
theorem dX1_differenceAt_1 : decode cX1_differenceAt 1 = .ok (.iload_n 1, 1) := by decide +kernel
theorem dX1_differenceAt_2 : decode cX1_differenceAt 2 = .ok (.iload_n 2, 1) := by decide +kernel
theorem dX1_differenceAt_3 : decode cX1_differenceAt 3 = .ok (.iadd, 1) := by decide +kernel
theorem dX1_differenceAt_4 : decode cX1_differenceAt 4 = .ok (.invokevirtual 66, 3) := by decide +kernel
theorem dX1_differenceAt_7 : decode cX1_differenceAt 7 = .ok (.aload_n 0, 1) := by decide +kernel
theorem dX1_differenceAt_8 : decode cX1_differenceAt 8 = .ok (.iload_n 1, 1) := by decide +kernel
theorem dX1_differenceAt_9 : decode cX1_differenceAt 9 = .ok (.invokevirtual 66, 3) := by decide +kernel
theorem dX1_differenceAt_12 : decode cX1_differenceAt 12 = .ok (.isub, 1) := by decide +kernel
theorem dX1_differenceAt_13 : decode cX1_differenceAt 13 = .ok (.aload_n 0, 1) := by decide +kernel
theorem dX1_differenceAt_14 : decode cX1_differenceAt 14 = .ok (.getfield 15, 3) := by decide +kernel
theorem dX1_differenceAt_17 : decode cX1_differenceAt 17 = .ok (.invokestatic 44, 3) := by decide +kernel
theorem dX1_differenceAt_20 : decode cX1_differenceAt 20 = .ok (.ireturn, 1) := by decide +kernel
theorem dX1_countOf_0 : decode cX1_countOf 0 = .ok (.iconst 0, 1) := by decide +kernel
theorem dX1_countOf_1 : decode cX1_countOf 1 = .ok (.istore_n 3, 1) := by decide +kernel
theorem dX1_countOf_2 : decode cX1_countOf 2 = .ok (.iconst 0, 1) := by decide +kernel
theorem dX1_countOf_3 : decode cX1_countOf 3 = .ok (.istore 4, 2) := by decide +kernel
theorem dX1_countOf_5 : decode cX1_countOf 5 = .ok (.iload 4, 2) := by decide +kernel
theorem dX1_countOf_7 : decode cX1_countOf 7 = .ok (.aload_n 0, 1) := by decide +kernel
theorem dX1_countOf_8 : decode cX1_countOf 8 = .ok (.getfield 27, 3) := by decide +kernel
theorem dX1_countOf_11 : decode cX1_countOf 11 = .ok (.if_icmp .ge 23, 3) := by decide +kernel
theorem dX1_countOf_14 : decode cX1_countOf 14 = .ok (.aload_n 0, 1) := by decide +kernel
theorem dX1_countOf_15 : decode cX1_countOf 15 = .ok (.iload 4, 2) := by decide +kernel
theorem dX1_countOf_17 : decode cX1_countOf 17 = .ok (.iload_n 1, 1) := by decide +kernel
theorem dX1_countOf_18 : decode cX1_countOf 18 = .ok (.invokevirtual 82, 3) := by decide +kernel
theorem dX1_countOf_21 : decode cX1_countOf 21 = .ok (.iload_n 2, 1) := by decide +kernel
theorem dX1_countOf_22 : decode cX1_countOf 22 = .ok (.if_icmp .ne 6, 3) := by decide +kernel
theorem dX1_countOf_25 : decode cX1_countOf 25 = .ok (.iinc 3 1, 3) := by decide +kernel
theorem dX1_countOf_28 : decode cX1_countOf 28 = .ok (.iinc 4 1, 3) := by decide +kernel
theorem dX1_countOf_31 : decode cX1_countOf 31 = .ok (.goto (-26), 3) := by decide +kernel
theorem dX1_countOf_34 : decode cX1_countOf 34 = .ok (.iload_n 3, 1) := by decide +kernel
theorem dX1_countOf_35 : decode cX1_countOf 35 = .ok (.ireturn, 1) := by decide +kernel
theorem dX1_evenness_0 : decode cX1_evenness 0 = .ok (.bipush 31, 2) := by decide +kernel
theorem dX1_evenness_2 : decode cX1_evenness 2 = .ok (.newarray .int, 2) := by decide +kernel
theorem dX1_evenness_4 : decode cX1_evenness 4 = .ok (.astore_n 1, 1) := by decide +kernel
theorem dX1_evenness_5 : decode cX1_evenness 5 = .ok (.iconst 0, 1) := by decide +kernel
theorem dX1_evenness_6 : decode cX1_evenness 6 = .ok (.istore_n 2, 1) := by decide +kernel
theorem dX1_evenness_7 : decode cX1_evenness 7 = .ok (.aload_n 0, 1) := by decide +kernel
theorem dX1_evenness_8 : decode cX1_evenness 8 = .ok (.getfield 27, 3) := by decide +kernel
theorem dX1_evenness_11 : decode cX1_evenness 11 = .ok (.istore_n 3, 1) := by decide +kernel
theorem dX1_evenness_12 : decode cX1_evenness 12 = .ok (.iconst 1, 1) := by decide +kernel
theorem dX1_evenness_13 : decode cX1_evenness 13 = .ok (.istore 4, 2) := by decide +kernel
theorem dX1_evenness_15 : decode cX1_evenness 15 = .ok (.iload 4, 2) := by decide +kernel
theorem dX1_evenness_17 : decode cX1_evenness 17 = .ok (.aload_n 0, 1) := by decide +kernel
theorem dX1_evenness_18 : decode cX1_evenness 18 = .ok (.getfield 27, 3) := by decide +kernel
theorem dX1_evenness_21 : decode cX1_evenness 21 = .ok (.if_icmp .ge 100, 3) := by decide +kernel
theorem dX1_evenness_24 : decode cX1_evenness 24 = .ok (.aload_n 1, 1) := by decide +kernel
theorem dX1_evenness_25 : decode cX1_evenness 25 = .ok (.iconst 0, 1) := by decide +kernel
theorem dX1_evenness_26 : decode cX1_evenness 26 = .ok (.invokestatic 85, 3) := by decide +kernel
theorem dX1_evenness_29 : decode cX1_evenness 29 = .ok (.iconst 0, 1) := by decide +kernel
theorem dX1_evenness_30 : decode cX1_evenness 30 = .ok (.istore 5, 2) := by decide +kernel
theorem dX1_evenness_32 : decode cX1_evenness 32 = .ok (.iload 5, 2) := by decide +kernel
theorem dX1_evenness_34 : decode cX1_evenness 34 = .ok (.aload_n 0, 1) := by decide +kernel
theorem dX1_evenness_35 : decode cX1_evenness 35 = .ok (.getfield 27, 3) := by decide +kernel
theorem dX1_evenness_38 : decode cX1_evenness 38 = .ok (.if_icmp .ge 34, 3) := by decide +kernel
theorem dX1_evenness_41 : decode cX1_evenness 41 = .ok (.aload_n 0, 1) := by decide +kernel
theorem dX1_evenness_42 : decode cX1_evenness 42 = .ok (.iload 5, 2) := by decide +kernel
theorem dX1_evenness_44 : decode cX1_evenness 44 = .ok (.iload 4, 2) := by decide +kernel
theorem dX1_evenness_46 : decode cX1_evenness 46 = .ok (.invokevirtual 82, 3) := by decide +kernel
theorem dX1_evenness_49 : decode cX1_evenness 49 = .ok (.istore 6, 2) := by decide +kernel
theorem dX1_evenness_51 : decode cX1_evenness 51 = .ok (.iload 6, 2) := by decide +kernel
theorem dX1_evenness_53 : decode cX1_evenness 53 = .ok (.aload_n 1, 1) := by decide +kernel
theorem dX1_evenness_54 : decode cX1_evenness 54 = .ok (.arraylength, 1) := by decide +kernel
theorem dX1_evenness_55 : decode cX1_evenness 55 = .ok (.if_icmp .ge 11, 3) := by decide +kernel
theorem dX1_evenness_58 : decode cX1_evenness 58 = .ok (.aload_n 1, 1) := by decide +kernel
theorem dX1_evenness_59 : decode cX1_evenness 59 = .ok (.iload 6, 2) := by decide +kernel
theorem dX1_evenness_61 : decode cX1_evenness 61 = .ok (.dup2, 1) := by decide +kernel
theorem dX1_evenness_62 : decode cX1_evenness 62 = .ok (.iaload, 1) := by decide +kernel
theorem dX1_evenness_63 : decode cX1_evenness 63 = .ok (.iconst 1, 1) := by decide +kernel
theorem dX1_evenness_64 : decode cX1_evenness 64 = .ok (.iadd, 1) := by decide +kernel
theorem dX1_evenness_65 : decode cX1_evenness 65 = .ok (.iastore, 1) := by decide +kernel
theorem dX1_evenness_66 : decode cX1_evenness 66 = .ok (.iinc 5 1, 3) := by decide +kernel
theorem dX1_evenness_69 : decode cX1_evenness 69 = .ok (.goto (-37), 3) := by decide +kernel
theorem dX1_evenness_72 : decode cX1_evenness 72 = .ok (.iconst 0, 1) := by decide +kernel
theorem dX1_evenness_73 : decode cX1_evenness 73 = .ok (.istore 5, 2) := by decide +kernel
theorem dX1_evenness_75 : decode cX1_evenness 75 = .ok (.iload 5, 2) := by decide +kernel
theorem dX1_evenness_77 : decode cX1_evenness 77 = .ok (.aload_n 0, 1) := by decide +kernel
theorem dX1_evenness_78 : decode cX1_evenness 78 = .ok (.getfield 15, 3) := by decide +kernel
theorem dX1_evenness_81 : decode cX1_evenness 81 = .ok (.if_icmp .ge 34, 3) := by decide +kernel
theorem dX1_evenness_84 : decode cX1_evenness 84 = .ok (.iload 5, 2) := by decide +kernel
theorem dX1_evenness_86 : decode cX1_evenness 86 = .ok (.aload_n 1, 1) := by decide +kernel
theorem dX1_evenness_87 : decode cX1_evenness 87 = .ok (.arraylength, 1) := by decide +kernel
theorem dX1_evenness_88 : decode cX1_evenness 88 = .ok (.if_icmp .ge 27, 3) := by decide +kernel
theorem dX1_evenness_91 : decode cX1_evenness 91 = .ok (.iload_n 2, 1) := by decide +kernel
theorem dX1_evenness_92 : decode cX1_evenness 92 = .ok (.aload_n 1, 1) := by decide +kernel
theorem dX1_evenness_93 : decode cX1_evenness 93 = .ok (.iload 5, 2) := by decide +kernel
theorem dX1_evenness_95 : decode cX1_evenness 95 = .ok (.iaload, 1) := by decide +kernel
theorem dX1_evenness_96 : decode cX1_evenness 96 = .ok (.invokestatic 72, 3) := by decide +kernel
theorem dX1_evenness_99 : decode cX1_evenness 99 = .ok (.istore_n 2, 1) := by decide +kernel
theorem dX1_evenness_100 : decode cX1_evenness 100 = .ok (.iload_n 3, 1) := by decide +kernel
theorem dX1_evenness_101 : decode cX1_evenness 101 = .ok (.aload_n 1, 1) := by decide +kernel
theorem dX1_evenness_102 : decode cX1_evenness 102 = .ok (.iload 5, 2) := by decide +kernel
theorem dX1_evenness_104 : decode cX1_evenness 104 = .ok (.iaload, 1) := by decide +kernel
theorem dX1_evenness_105 : decode cX1_evenness 105 = .ok (.invokestatic 91, 3) := by decide +kernel
theorem dX1_evenness_108 : decode cX1_evenness 108 = .ok (.istore_n 3, 1) := by decide +kernel
theorem dX1_evenness_109 : decode cX1_evenness 109 = .ok (.iinc 5 1, 3) := by decide +kernel
theorem dX1_evenness_112 : decode cX1_evenness 112 = .ok (.goto (-37), 3) := by decide +kernel
theorem dX1_evenness_115 : decode cX1_evenness 115 = .ok (.iinc 4 1, 3) := by decide +kernel
theorem dX1_evenness_118 : decode cX1_evenness 118 = .ok (.goto (-103), 3) := by decide +kernel
theorem dX1_evenness_121 : decode cX1_evenness 121 = .ok (.iload_n 2, 1) := by decide +kernel
theorem dX1_evenness_122 : decode cX1_evenness 122 = .ok (.iload_n 3, 1) := by decide +kernel
theorem dX1_evenness_123 : decode cX1_evenness 123 = .ok (.isub, 1) := by decide +kernel
theorem dX1_evenness_124 : decode cX1_evenness 124 = .ok (.ireturn, 1) := by decide +kernel
theorem dX1_planeDepth_0 : decode cX1_planeDepth 0 = .ok (.aload_n 0, 1) := by decide +kernel
theorem dX1_planeDepth_1 : decode cX1_planeDepth 1 = .ok (.iload_n 1, 1) := by decide +kernel
theorem dX1_planeDepth_2 : decode cX1_planeDepth 2 = .ok (.invokevirtual 66, 3) := by decide +kernel
theorem dX1_planeDepth_5 : decode cX1_planeDepth 5 = .ok (.aload_n 0, 1) := by decide +kernel
theorem dX1_planeDepth_6 : decode cX1_planeDepth 6 = .ok (.iload_n 2, 1) := by decide +kernel
theorem dX1_planeDepth_7 : decode cX1_planeDepth 7 = .ok (.invokevirtual 66, 3) := by decide +kernel
theorem dX1_planeDepth_10 : decode cX1_planeDepth 10 = .ok (.iadd, 1) := by decide +kernel
theorem dX1_planeDepth_11 : decode cX1_planeDepth 11 = .ok (.aload_n 0, 1) := by decide +kernel
theorem dX1_planeDepth_12 : decode cX1_planeDepth 12 = .ok (.getfield 15, 3) := by decide +kernel
theorem dX1_planeDepth_15 : decode cX1_planeDepth 15 = .ok (.invokestatic 44, 3) := by decide +kernel
theorem dX1_planeDepth_18 : decode cX1_planeDepth 18 = .ok (.ireturn, 1) := by decide +kernel
theorem dX1_planePlaces_0 : decode cX1_planePlaces 0 = .ok (.iconst 0, 1) := by decide +kernel
theorem dX1_planePlaces_1 : decode cX1_planePlaces 1 = .ok (.istore_n 2, 1) := by decide +kernel
theorem dX1_planePlaces_2 : decode cX1_planePlaces 2 = .ok (.iconst 0, 1) := by decide +kernel
theorem dX1_planePlaces_3 : decode cX1_planePlaces 3 = .ok (.istore_n 3, 1) := by decide +kernel
theorem dX1_planePlaces_4 : decode cX1_planePlaces 4 = .ok (.iload_n 3, 1) := by decide +kernel
theorem dX1_planePlaces_5 : decode cX1_planePlaces 5 = .ok (.aload_n 0, 1) := by decide +kernel
theorem dX1_planePlaces_6 : decode cX1_planePlaces 6 = .ok (.getfield 15, 3) := by decide +kernel
theorem dX1_planePlaces_9 : decode cX1_planePlaces 9 = .ok (.if_icmp .ge 41, 3) := by decide +kernel
theorem dX1_planePlaces_12 : decode cX1_planePlaces 12 = .ok (.iconst 0, 1) := by decide +kernel
theorem dX1_planePlaces_13 : decode cX1_planePlaces 13 = .ok (.istore 4, 2) := by decide +kernel
theorem dX1_planePlaces_15 : decode cX1_planePlaces 15 = .ok (.iload 4, 2) := by decide +kernel
theorem dX1_planePlaces_17 : decode cX1_planePlaces 17 = .ok (.aload_n 0, 1) := by decide +kernel
theorem dX1_planePlaces_18 : decode cX1_planePlaces 18 = .ok (.getfield 15, 3) := by decide +kernel
theorem dX1_planePlaces_21 : decode cX1_planePlaces 21 = .ok (.if_icmp .ge 23, 3) := by decide +kernel
theorem dX1_planePlaces_24 : decode cX1_planePlaces 24 = .ok (.aload_n 0, 1) := by decide +kernel
theorem dX1_planePlaces_25 : decode cX1_planePlaces 25 = .ok (.iload_n 3, 1) := by decide +kernel
theorem dX1_planePlaces_26 : decode cX1_planePlaces 26 = .ok (.iload 4, 2) := by decide +kernel
theorem dX1_planePlaces_28 : decode cX1_planePlaces 28 = .ok (.invokevirtual 94, 3) := by decide +kernel
theorem dX1_planePlaces_31 : decode cX1_planePlaces 31 = .ok (.iload_n 1, 1) := by decide +kernel
theorem dX1_planePlaces_32 : decode cX1_planePlaces 32 = .ok (.if_icmp .ne 6, 3) := by decide +kernel
theorem dX1_planePlaces_35 : decode cX1_planePlaces 35 = .ok (.iinc 2 1, 3) := by decide +kernel
theorem dX1_planePlaces_38 : decode cX1_planePlaces 38 = .ok (.iinc 4 1, 3) := by decide +kernel
theorem dX1_planePlaces_41 : decode cX1_planePlaces 41 = .ok (.goto (-26), 3) := by decide +kernel
theorem dX1_planePlaces_44 : decode cX1_planePlaces 44 = .ok (.iinc 3 1, 3) := by decide +kernel
theorem dX1_planePlaces_47 : decode cX1_planePlaces 47 = .ok (.goto (-43), 3) := by decide +kernel
theorem dX1_planePlaces_50 : decode cX1_planePlaces 50 = .ok (.iload_n 2, 1) := by decide +kernel
theorem dX1_planePlaces_51 : decode cX1_planePlaces 51 = .ok (.ireturn, 1) := by decide +kernel
theorem dX2_init_0 : decode cX2_init 0 = .ok (.aload_n 0, 1) := by decide +kernel
theorem dX2_init_1 : decode cX2_init 1 = .ok (.invokespecial 3, 3) := by decide +kernel
theorem dX2_init_4 : decode cX2_init 4 = .ok (.aload_n 0, 1) := by decide +kernel
theorem dX2_init_5 : decode cX2_init 5 = .ok (.bipush 6, 2) := by decide +kernel
theorem dX2_init_7 : decode cX2_init 7 = .ok (.anewarray 9, 3) := by decide +kernel
theorem dX2_init_10 : decode cX2_init 10 = .ok (.putfield 11, 3) := by decide +kernel
theorem dX2_init_13 : decode cX2_init 13 = .ok (.aload_n 0, 1) := by decide +kernel
theorem dX2_init_14 : decode cX2_init 14 = .ok (.iconst 0, 1) := by decide +kernel
theorem dX2_init_15 : decode cX2_init 15 = .ok (.putfield 17, 3) := by decide +kernel
theorem dX2_init_18 : decode cX2_init 18 = .ok (.return_, 1) := by decide +kernel
theorem dX2_forget_0 : decode cX2_forget 0 = .ok (.iconst 0, 1) := by decide +kernel
theorem dX2_forget_1 : decode cX2_forget 1 = .ok (.istore_n 1, 1) := by decide +kernel
theorem dX2_forget_2 : decode cX2_forget 2 = .ok (.iload_n 1, 1) := by decide +kernel
theorem dX2_forget_3 : decode cX2_forget 3 = .ok (.aload_n 0, 1) := by decide +kernel
theorem dX2_forget_4 : decode cX2_forget 4 = .ok (.getfield 11, 3) := by decide +kernel
theorem dX2_forget_7 : decode cX2_forget 7 = .ok (.arraylength, 1) := by decide +kernel
theorem dX2_forget_8 : decode cX2_forget 8 = .ok (.if_icmp .ge 16, 3) := by decide +kernel
theorem dX2_forget_11 : decode cX2_forget 11 = .ok (.aload_n 0, 1) := by decide +kernel
theorem dX2_forget_12 : decode cX2_forget 12 = .ok (.getfield 11, 3) := by decide +kernel
theorem dX2_forget_15 : decode cX2_forget 15 = .ok (.iload_n 1, 1) := by decide +kernel
theorem dX2_forget_16 : decode cX2_forget 16 = .ok (.aconst_null, 1) := by decide +kernel
theorem dX2_forget_17 : decode cX2_forget 17 = .ok (.aastore, 1) := by decide +kernel
theorem dX2_forget_18 : decode cX2_forget 18 = .ok (.iinc 1 1, 3) := by decide +kernel
theorem dX2_forget_21 : decode cX2_forget 21 = .ok (.goto (-19), 3) := by decide +kernel
theorem dX2_forget_24 : decode cX2_forget 24 = .ok (.aload_n 0, 1) := by decide +kernel
theorem dX2_forget_25 : decode cX2_forget 25 = .ok (.iconst 0, 1) := by decide +kernel
theorem dX2_forget_26 : decode cX2_forget 26 = .ok (.putfield 17, 3) := by decide +kernel
theorem dX2_forget_29 : decode cX2_forget 29 = .ok (.return_, 1) := by decide +kernel
theorem dX2_keep_0 : decode cX2_keep 0 = .ok (.aload_n 0, 1) := by decide +kernel
theorem dX2_keep_1 : decode cX2_keep 1 = .ok (.getfield 17, 3) := by decide +kernel
theorem dX2_keep_4 : decode cX2_keep 4 = .ok (.aload_n 0, 1) := by decide +kernel
theorem dX2_keep_5 : decode cX2_keep 5 = .ok (.getfield 11, 3) := by decide +kernel
theorem dX2_keep_8 : decode cX2_keep 8 = .ok (.arraylength, 1) := by decide +kernel
theorem dX2_keep_9 : decode cX2_keep 9 = .ok (.if_icmp .lt 45, 3) := by decide +kernel
theorem dX2_keep_12 : decode cX2_keep 12 = .ok (.iconst 1, 1) := by decide +kernel
theorem dX2_keep_13 : decode cX2_keep 13 = .ok (.istore_n 2, 1) := by decide +kernel
theorem dX2_keep_14 : decode cX2_keep 14 = .ok (.iload_n 2, 1) := by decide +kernel
theorem dX2_keep_15 : decode cX2_keep 15 = .ok (.aload_n 0, 1) := by decide +kernel
theorem dX2_keep_16 : decode cX2_keep 16 = .ok (.getfield 11, 3) := by decide +kernel
theorem dX2_keep_19 : decode cX2_keep 19 = .ok (.arraylength, 1) := by decide +kernel
theorem dX2_keep_20 : decode cX2_keep 20 = .ok (.if_icmp .ge 23, 3) := by decide +kernel
theorem dX2_keep_23 : decode cX2_keep 23 = .ok (.aload_n 0, 1) := by decide +kernel
theorem dX2_keep_24 : decode cX2_keep 24 = .ok (.getfield 11, 3) := by decide +kernel
theorem dX2_keep_27 : decode cX2_keep 27 = .ok (.iload_n 2, 1) := by decide +kernel
theorem dX2_keep_28 : decode cX2_keep 28 = .ok (.iconst 1, 1) := by decide +kernel
theorem dX2_keep_29 : decode cX2_keep 29 = .ok (.isub, 1) := by decide +kernel
theorem dX2_keep_30 : decode cX2_keep 30 = .ok (.aload_n 0, 1) := by decide +kernel
theorem dX2_keep_31 : decode cX2_keep 31 = .ok (.getfield 11, 3) := by decide +kernel
theorem dX2_keep_34 : decode cX2_keep 34 = .ok (.iload_n 2, 1) := by decide +kernel
theorem dX2_keep_35 : decode cX2_keep 35 = .ok (.aaload, 1) := by decide +kernel
theorem dX2_keep_36 : decode cX2_keep 36 = .ok (.aastore, 1) := by decide +kernel
theorem dX2_keep_37 : decode cX2_keep 37 = .ok (.iinc 2 1, 3) := by decide +kernel
theorem dX2_keep_40 : decode cX2_keep 40 = .ok (.goto (-26), 3) := by decide +kernel
theorem dX2_keep_43 : decode cX2_keep 43 = .ok (.aload_n 0, 1) := by decide +kernel
theorem dX2_keep_44 : decode cX2_keep 44 = .ok (.aload_n 0, 1) := by decide +kernel
theorem dX2_keep_45 : decode cX2_keep 45 = .ok (.getfield 11, 3) := by decide +kernel
theorem dX2_keep_48 : decode cX2_keep 48 = .ok (.arraylength, 1) := by decide +kernel
theorem dX2_keep_49 : decode cX2_keep 49 = .ok (.iconst 1, 1) := by decide +kernel
theorem dX2_keep_50 : decode cX2_keep 50 = .ok (.isub, 1) := by decide +kernel
theorem dX2_keep_51 : decode cX2_keep 51 = .ok (.putfield 17, 3) := by decide +kernel
theorem dX2_keep_54 : decode cX2_keep 54 = .ok (.aload_n 0, 1) := by decide +kernel
theorem dX2_keep_55 : decode cX2_keep 55 = .ok (.getfield 17, 3) := by decide +kernel
theorem dX2_keep_58 : decode cX2_keep 58 = .ok (.ifCond .lt 13, 3) := by decide +kernel
theorem dX2_keep_61 : decode cX2_keep 61 = .ok (.aload_n 0, 1) := by decide +kernel
theorem dX2_keep_62 : decode cX2_keep 62 = .ok (.getfield 11, 3) := by decide +kernel
theorem dX2_keep_65 : decode cX2_keep 65 = .ok (.aload_n 0, 1) := by decide +kernel
theorem dX2_keep_66 : decode cX2_keep 66 = .ok (.getfield 17, 3) := by decide +kernel
theorem dX2_keep_69 : decode cX2_keep 69 = .ok (.aload_n 1, 1) := by decide +kernel
theorem dX2_keep_70 : decode cX2_keep 70 = .ok (.aastore, 1) := by decide +kernel
theorem dX2_keep_71 : decode cX2_keep 71 = .ok (.aload_n 0, 1) := by decide +kernel
theorem dX2_keep_72 : decode cX2_keep 72 = .ok (.dup, 1) := by decide +kernel
theorem dX2_keep_73 : decode cX2_keep 73 = .ok (.getfield 17, 3) := by decide +kernel
theorem dX2_keep_76 : decode cX2_keep 76 = .ok (.iconst 1, 1) := by decide +kernel
theorem dX2_keep_77 : decode cX2_keep 77 = .ok (.iadd, 1) := by decide +kernel
theorem dX2_keep_78 : decode cX2_keep 78 = .ok (.putfield 17, 3) := by decide +kernel
theorem dX2_keep_81 : decode cX2_keep 81 = .ok (.return_, 1) := by decide +kernel
theorem dX2_takeLatest_0 : decode cX2_takeLatest 0 = .ok (.aload_n 0, 1) := by decide +kernel
theorem dX2_takeLatest_1 : decode cX2_takeLatest 1 = .ok (.getfield 17, 3) := by decide +kernel
theorem dX2_takeLatest_4 : decode cX2_takeLatest 4 = .ok (.iconst 1, 1) := by decide +kernel
theorem dX2_takeLatest_5 : decode cX2_takeLatest 5 = .ok (.if_icmp .lt 15, 3) := by decide +kernel
theorem dX2_takeLatest_8 : decode cX2_takeLatest 8 = .ok (.aload_n 0, 1) := by decide +kernel
theorem dX2_takeLatest_9 : decode cX2_takeLatest 9 = .ok (.getfield 17, 3) := by decide +kernel
theorem dX2_takeLatest_12 : decode cX2_takeLatest 12 = .ok (.aload_n 0, 1) := by decide +kernel
theorem dX2_takeLatest_13 : decode cX2_takeLatest 13 = .ok (.getfield 11, 3) := by decide +kernel
theorem dX2_takeLatest_16 : decode cX2_takeLatest 16 = .ok (.arraylength, 1) := by decide +kernel
theorem dX2_takeLatest_17 : decode cX2_takeLatest 17 = .ok (.if_icmp .le 5, 3) := by decide +kernel
theorem dX2_takeLatest_20 : decode cX2_takeLatest 20 = .ok (.aconst_null, 1) := by decide +kernel
theorem dX2_takeLatest_21 : decode cX2_takeLatest 21 = .ok (.areturn, 1) := by decide +kernel
theorem dX2_takeLatest_22 : decode cX2_takeLatest 22 = .ok (.aload_n 0, 1) := by decide +kernel
theorem dX2_takeLatest_23 : decode cX2_takeLatest 23 = .ok (.dup, 1) := by decide +kernel
theorem dX2_takeLatest_24 : decode cX2_takeLatest 24 = .ok (.getfield 17, 3) := by decide +kernel
theorem dX2_takeLatest_27 : decode cX2_takeLatest 27 = .ok (.iconst 1, 1) := by decide +kernel
theorem dX2_takeLatest_28 : decode cX2_takeLatest 28 = .ok (.isub, 1) := by decide +kernel
theorem dX2_takeLatest_29 : decode cX2_takeLatest 29 = .ok (.putfield 17, 3) := by decide +kernel
theorem dX2_takeLatest_32 : decode cX2_takeLatest 32 = .ok (.aload_n 0, 1) := by decide +kernel
theorem dX2_takeLatest_33 : decode cX2_takeLatest 33 = .ok (.getfield 11, 3) := by decide +kernel
theorem dX2_takeLatest_36 : decode cX2_takeLatest 36 = .ok (.aload_n 0, 1) := by decide +kernel
theorem dX2_takeLatest_37 : decode cX2_takeLatest 37 = .ok (.getfield 17, 3) := by decide +kernel
theorem dX2_takeLatest_40 : decode cX2_takeLatest 40 = .ok (.aaload, 1) := by decide +kernel
theorem dX2_takeLatest_41 : decode cX2_takeLatest 41 = .ok (.astore_n 1, 1) := by decide +kernel
theorem dX2_takeLatest_42 : decode cX2_takeLatest 42 = .ok (.aload_n 0, 1) := by decide +kernel
theorem dX2_takeLatest_43 : decode cX2_takeLatest 43 = .ok (.getfield 11, 3) := by decide +kernel
theorem dX2_takeLatest_46 : decode cX2_takeLatest 46 = .ok (.aload_n 0, 1) := by decide +kernel
theorem dX2_takeLatest_47 : decode cX2_takeLatest 47 = .ok (.getfield 17, 3) := by decide +kernel
theorem dX2_takeLatest_50 : decode cX2_takeLatest 50 = .ok (.aconst_null, 1) := by decide +kernel
theorem dX2_takeLatest_51 : decode cX2_takeLatest 51 = .ok (.aastore, 1) := by decide +kernel
theorem dX2_takeLatest_52 : decode cX2_takeLatest 52 = .ok (.aload_n 1, 1) := by decide +kernel
theorem dX2_takeLatest_53 : decode cX2_takeLatest 53 = .ok (.areturn, 1) := by decide +kernel
theorem dX3_init_0 : decode cX3_init 0 = .ok (.aload_n 0, 1) := by decide +kernel
theorem dX3_init_1 : decode cX3_init 1 = .ok (.invokespecial 1, 3) := by decide +kernel
theorem dX3_init_4 : decode cX3_init 4 = .ok (.aload_n 0, 1) := by decide +kernel
theorem dX3_init_5 : decode cX3_init 5 = .ok (.aload_n 1, 1) := by decide +kernel
theorem dX3_init_6 : decode cX3_init 6 = .ok (.putfield 7, 3) := by decide +kernel
theorem dX3_init_9 : decode cX3_init 9 = .ok (.aload_n 0, 1) := by decide +kernel
theorem dX3_init_10 : decode cX3_init 10 = .ok (.iload_n 2, 1) := by decide +kernel
theorem dX3_init_11 : decode cX3_init 11 = .ok (.putfield 13, 3) := by decide +kernel
theorem dX3_init_14 : decode cX3_init 14 = .ok (.aload_n 0, 1) := by decide +kernel
theorem dX3_init_15 : decode cX3_init 15 = .ok (.iload_n 3, 1) := by decide +kernel
theorem dX3_init_16 : decode cX3_init 16 = .ok (.putfield 17, 3) := by decide +kernel
theorem dX3_init_19 : decode cX3_init 19 = .ok (.aload_n 0, 1) := by decide +kernel
theorem dX3_init_20 : decode cX3_init 20 = .ok (.iload 4, 2) := by decide +kernel
theorem dX3_init_22 : decode cX3_init 22 = .ok (.putfield 20, 3) := by decide +kernel
theorem dX3_init_25 : decode cX3_init 25 = .ok (.return_, 1) := by decide +kernel
theorem dX3_panelAt_0 : decode cX3_panelAt 0 = .ok (.iload_n 1, 1) := by decide +kernel
theorem dX3_panelAt_1 : decode cX3_panelAt 1 = .ok (.ifCond .lt 12, 3) := by decide +kernel
theorem dX3_panelAt_4 : decode cX3_panelAt 4 = .ok (.iload_n 1, 1) := by decide +kernel
theorem dX3_panelAt_5 : decode cX3_panelAt 5 = .ok (.aload_n 0, 1) := by decide +kernel
theorem dX3_panelAt_6 : decode cX3_panelAt 6 = .ok (.getfield 7, 3) := by decide +kernel
theorem dX3_panelAt_9 : decode cX3_panelAt 9 = .ok (.arraylength, 1) := by decide +kernel
theorem dX3_panelAt_10 : decode cX3_panelAt 10 = .ok (.if_icmp .lt 7, 3) := by decide +kernel
theorem dX3_panelAt_13 : decode cX3_panelAt 13 = .ok (.aconst_null, 1) := by decide +kernel
theorem dX3_panelAt_14 : decode cX3_panelAt 14 = .ok (.goto 9, 3) := by decide +kernel
theorem dX3_panelAt_17 : decode cX3_panelAt 17 = .ok (.aload_n 0, 1) := by decide +kernel
theorem dX3_panelAt_18 : decode cX3_panelAt 18 = .ok (.getfield 7, 3) := by decide +kernel
theorem dX3_panelAt_21 : decode cX3_panelAt 21 = .ok (.iload_n 1, 1) := by decide +kernel
theorem dX3_panelAt_22 : decode cX3_panelAt 22 = .ok (.aaload, 1) := by decide +kernel
theorem dX3_panelAt_23 : decode cX3_panelAt 23 = .ok (.areturn, 1) := by decide +kernel
theorem dX3_wellsBefore_0 : decode cX3_wellsBefore 0 = .ok (.iconst 0, 1) := by decide +kernel
theorem dX3_wellsBefore_1 : decode cX3_wellsBefore 1 = .ok (.istore_n 2, 1) := by decide +kernel
theorem dX3_wellsBefore_2 : decode cX3_wellsBefore 2 = .ok (.iconst 0, 1) := by decide +kernel
theorem dX3_wellsBefore_3 : decode cX3_wellsBefore 3 = .ok (.istore_n 3, 1) := by decide +kernel
theorem dX3_wellsBefore_4 : decode cX3_wellsBefore 4 = .ok (.iload_n 3, 1) := by decide +kernel
theorem dX3_wellsBefore_5 : decode cX3_wellsBefore 5 = .ok (.iload_n 1, 1) := by decide +kernel
theorem dX3_wellsBefore_6 : decode cX3_wellsBefore 6 = .ok (.if_icmp .ge 39, 3) := by decide +kernel
theorem dX3_wellsBefore_9 : decode cX3_wellsBefore 9 = .ok (.iload_n 3, 1) := by decide +kernel
theorem dX3_wellsBefore_10 : decode cX3_wellsBefore 10 = .ok (.aload_n 0, 1) := by decide +kernel
theorem dX3_wellsBefore_11 : decode cX3_wellsBefore 11 = .ok (.getfield 7, 3) := by decide +kernel
theorem dX3_wellsBefore_14 : decode cX3_wellsBefore 14 = .ok (.arraylength, 1) := by decide +kernel
theorem dX3_wellsBefore_15 : decode cX3_wellsBefore 15 = .ok (.if_icmp .ge 30, 3) := by decide +kernel
theorem dX3_wellsBefore_18 : decode cX3_wellsBefore 18 = .ok (.aload_n 0, 1) := by decide +kernel
theorem dX3_wellsBefore_19 : decode cX3_wellsBefore 19 = .ok (.getfield 7, 3) := by decide +kernel
theorem dX3_wellsBefore_22 : decode cX3_wellsBefore 22 = .ok (.iload_n 3, 1) := by decide +kernel
theorem dX3_wellsBefore_23 : decode cX3_wellsBefore 23 = .ok (.aaload, 1) := by decide +kernel
theorem dX3_wellsBefore_24 : decode cX3_wellsBefore 24 = .ok (.astore 4, 2) := by decide +kernel
theorem dX3_wellsBefore_26 : decode cX3_wellsBefore 26 = .ok (.aload 4, 2) := by decide +kernel
theorem dX3_wellsBefore_28 : decode cX3_wellsBefore 28 = .ok (.ifnull 11, 3) := by decide +kernel
theorem dX3_wellsBefore_31 : decode cX3_wellsBefore 31 = .ok (.iload_n 2, 1) := by decide +kernel
theorem dX3_wellsBefore_32 : decode cX3_wellsBefore 32 = .ok (.aload 4, 2) := by decide +kernel
theorem dX3_wellsBefore_34 : decode cX3_wellsBefore 34 = .ok (.getfield 23, 3) := by decide +kernel
theorem dX3_wellsBefore_37 : decode cX3_wellsBefore 37 = .ok (.iadd, 1) := by decide +kernel
theorem dX3_wellsBefore_38 : decode cX3_wellsBefore 38 = .ok (.istore_n 2, 1) := by decide +kernel
theorem dX3_wellsBefore_39 : decode cX3_wellsBefore 39 = .ok (.iinc 3 1, 3) := by decide +kernel
theorem dX3_wellsBefore_42 : decode cX3_wellsBefore 42 = .ok (.goto (-38), 3) := by decide +kernel
theorem dX3_wellsBefore_45 : decode cX3_wellsBefore 45 = .ok (.iload_n 2, 1) := by decide +kernel
theorem dX3_wellsBefore_46 : decode cX3_wellsBefore 46 = .ok (.ireturn, 1) := by decide +kernel
theorem dX3_withPanel_0 : decode cX3_withPanel 0 = .ok (.aload_n 0, 1) := by decide +kernel
theorem dX3_withPanel_1 : decode cX3_withPanel 1 = .ok (.getfield 7, 3) := by decide +kernel
theorem dX3_withPanel_4 : decode cX3_withPanel 4 = .ok (.invokevirtual 28, 3) := by decide +kernel
theorem dX3_withPanel_7 : decode cX3_withPanel 7 = .ok (.checkcast 29, 3) := by decide +kernel
theorem dX3_withPanel_10 : decode cX3_withPanel 10 = .ok (.astore_n 3, 1) := by decide +kernel
theorem dX3_withPanel_11 : decode cX3_withPanel 11 = .ok (.iload_n 1, 1) := by decide +kernel
theorem dX3_withPanel_12 : decode cX3_withPanel 12 = .ok (.ifCond .lt 13, 3) := by decide +kernel
theorem dX3_withPanel_15 : decode cX3_withPanel 15 = .ok (.iload_n 1, 1) := by decide +kernel
theorem dX3_withPanel_16 : decode cX3_withPanel 16 = .ok (.aload_n 3, 1) := by decide +kernel
theorem dX3_withPanel_17 : decode cX3_withPanel 17 = .ok (.arraylength, 1) := by decide +kernel
theorem dX3_withPanel_18 : decode cX3_withPanel 18 = .ok (.if_icmp .ge 7, 3) := by decide +kernel
theorem dX3_withPanel_21 : decode cX3_withPanel 21 = .ok (.aload_n 3, 1) := by decide +kernel
theorem dX3_withPanel_22 : decode cX3_withPanel 22 = .ok (.iload_n 1, 1) := by decide +kernel
theorem dX3_withPanel_23 : decode cX3_withPanel 23 = .ok (.aload_n 2, 1) := by decide +kernel
theorem dX3_withPanel_24 : decode cX3_withPanel 24 = .ok (.aastore, 1) := by decide +kernel
theorem dX3_withPanel_25 : decode cX3_withPanel 25 = .ok (.new 8, 3) := by decide +kernel
theorem dX3_withPanel_28 : decode cX3_withPanel 28 = .ok (.dup, 1) := by decide +kernel
theorem dX3_withPanel_29 : decode cX3_withPanel 29 = .ok (.aload_n 3, 1) := by decide +kernel
theorem dX3_withPanel_30 : decode cX3_withPanel 30 = .ok (.aload_n 0, 1) := by decide +kernel
theorem dX3_withPanel_31 : decode cX3_withPanel 31 = .ok (.getfield 13, 3) := by decide +kernel
theorem dX3_withPanel_34 : decode cX3_withPanel 34 = .ok (.aload_n 0, 1) := by decide +kernel
theorem dX3_withPanel_35 : decode cX3_withPanel 35 = .ok (.getfield 17, 3) := by decide +kernel
theorem dX3_withPanel_38 : decode cX3_withPanel 38 = .ok (.aload_n 0, 1) := by decide +kernel
theorem dX3_withPanel_39 : decode cX3_withPanel 39 = .ok (.getfield 20, 3) := by decide +kernel
theorem dX3_withPanel_42 : decode cX3_withPanel 42 = .ok (.invokespecial 33, 3) := by decide +kernel
theorem dX3_withPanel_45 : decode cX3_withPanel 45 = .ok (.areturn, 1) := by decide +kernel
theorem dX3_withoutPanel_0 : decode cX3_withoutPanel 0 = .ok (.iload_n 1, 1) := by decide +kernel
theorem dX3_withoutPanel_1 : decode cX3_withoutPanel 1 = .ok (.ifCond .lt 12, 3) := by decide +kernel
theorem dX3_withoutPanel_4 : decode cX3_withoutPanel 4 = .ok (.iload_n 1, 1) := by decide +kernel
theorem dX3_withoutPanel_5 : decode cX3_withoutPanel 5 = .ok (.aload_n 0, 1) := by decide +kernel
theorem dX3_withoutPanel_6 : decode cX3_withoutPanel 6 = .ok (.getfield 7, 3) := by decide +kernel
theorem dX3_withoutPanel_9 : decode cX3_withoutPanel 9 = .ok (.arraylength, 1) := by decide +kernel
theorem dX3_withoutPanel_10 : decode cX3_withoutPanel 10 = .ok (.if_icmp .lt 5, 3) := by decide +kernel
theorem dX3_withoutPanel_13 : decode cX3_withoutPanel 13 = .ok (.aload_n 0, 1) := by decide +kernel
theorem dX3_withoutPanel_14 : decode cX3_withoutPanel 14 = .ok (.areturn, 1) := by decide +kernel
theorem dX3_withoutPanel_15 : decode cX3_withoutPanel 15 = .ok (.aload_n 0, 1) := by decide +kernel
theorem dX3_withoutPanel_16 : decode cX3_withoutPanel 16 = .ok (.getfield 7, 3) := by decide +kernel
theorem dX3_withoutPanel_19 : decode cX3_withoutPanel 19 = .ok (.arraylength, 1) := by decide +kernel
theorem dX3_withoutPanel_20 : decode cX3_withoutPanel 20 = .ok (.iconst 1, 1) := by decide +kernel
theorem dX3_withoutPanel_21 : decode cX3_withoutPanel 21 = .ok (.isub, 1) := by decide +kernel
theorem dX3_withoutPanel_22 : decode cX3_withoutPanel 22 = .ok (.anewarray 24, 3) := by decide +kernel
theorem dX3_withoutPanel_25 : decode cX3_withoutPanel 25 = .ok (.astore_n 2, 1) := by decide +kernel
theorem dX3_withoutPanel_26 : decode cX3_withoutPanel 26 = .ok (.iconst 0, 1) := by decide +kernel
theorem dX3_withoutPanel_27 : decode cX3_withoutPanel 27 = .ok (.istore_n 3, 1) := by decide +kernel
theorem dX3_withoutPanel_28 : decode cX3_withoutPanel 28 = .ok (.iload_n 3, 1) := by decide +kernel
theorem dX3_withoutPanel_29 : decode cX3_withoutPanel 29 = .ok (.aload_n 2, 1) := by decide +kernel
theorem dX3_withoutPanel_30 : decode cX3_withoutPanel 30 = .ok (.arraylength, 1) := by decide +kernel
theorem dX3_withoutPanel_31 : decode cX3_withoutPanel 31 = .ok (.if_icmp .ge 29, 3) := by decide +kernel
theorem dX3_withoutPanel_34 : decode cX3_withoutPanel 34 = .ok (.aload_n 2, 1) := by decide +kernel
theorem dX3_withoutPanel_35 : decode cX3_withoutPanel 35 = .ok (.iload_n 3, 1) := by decide +kernel
theorem dX3_withoutPanel_36 : decode cX3_withoutPanel 36 = .ok (.aload_n 0, 1) := by decide +kernel
theorem dX3_withoutPanel_37 : decode cX3_withoutPanel 37 = .ok (.getfield 7, 3) := by decide +kernel
theorem dX3_withoutPanel_40 : decode cX3_withoutPanel 40 = .ok (.iload_n 3, 1) := by decide +kernel
theorem dX3_withoutPanel_41 : decode cX3_withoutPanel 41 = .ok (.iload_n 1, 1) := by decide +kernel
theorem dX3_withoutPanel_42 : decode cX3_withoutPanel 42 = .ok (.if_icmp .ge 7, 3) := by decide +kernel
theorem dX3_withoutPanel_45 : decode cX3_withoutPanel 45 = .ok (.iload_n 3, 1) := by decide +kernel
theorem dX3_withoutPanel_46 : decode cX3_withoutPanel 46 = .ok (.goto 6, 3) := by decide +kernel
theorem dX3_withoutPanel_49 : decode cX3_withoutPanel 49 = .ok (.iload_n 3, 1) := by decide +kernel
theorem dX3_withoutPanel_50 : decode cX3_withoutPanel 50 = .ok (.iconst 1, 1) := by decide +kernel
theorem dX3_withoutPanel_51 : decode cX3_withoutPanel 51 = .ok (.iadd, 1) := by decide +kernel
theorem dX3_withoutPanel_52 : decode cX3_withoutPanel 52 = .ok (.aaload, 1) := by decide +kernel
theorem dX3_withoutPanel_53 : decode cX3_withoutPanel 53 = .ok (.aastore, 1) := by decide +kernel
theorem dX3_withoutPanel_54 : decode cX3_withoutPanel 54 = .ok (.iinc 3 1, 3) := by decide +kernel
theorem dX3_withoutPanel_57 : decode cX3_withoutPanel 57 = .ok (.goto (-29), 3) := by decide +kernel
theorem dX3_withoutPanel_60 : decode cX3_withoutPanel 60 = .ok (.new 8, 3) := by decide +kernel
theorem dX3_withoutPanel_63 : decode cX3_withoutPanel 63 = .ok (.dup, 1) := by decide +kernel
theorem dX3_withoutPanel_64 : decode cX3_withoutPanel 64 = .ok (.aload_n 2, 1) := by decide +kernel
theorem dX3_withoutPanel_65 : decode cX3_withoutPanel 65 = .ok (.aload_n 0, 1) := by decide +kernel
theorem dX3_withoutPanel_66 : decode cX3_withoutPanel 66 = .ok (.getfield 13, 3) := by decide +kernel
theorem dX3_withoutPanel_69 : decode cX3_withoutPanel 69 = .ok (.aload_n 0, 1) := by decide +kernel
theorem dX3_withoutPanel_70 : decode cX3_withoutPanel 70 = .ok (.getfield 17, 3) := by decide +kernel
theorem dX3_withoutPanel_73 : decode cX3_withoutPanel 73 = .ok (.aload_n 0, 1) := by decide +kernel
theorem dX3_withoutPanel_74 : decode cX3_withoutPanel 74 = .ok (.getfield 20, 3) := by decide +kernel
theorem dX3_withoutPanel_77 : decode cX3_withoutPanel 77 = .ok (.invokespecial 33, 3) := by decide +kernel
theorem dX3_withoutPanel_80 : decode cX3_withoutPanel 80 = .ok (.areturn, 1) := by decide +kernel
theorem dX3_allows_0 : decode cX3_allows 0 = .ok (.iload_n 0, 1) := by decide +kernel
theorem dX3_allows_1 : decode cX3_allows 1 = .ok (.tableswitch 78 0 2 #[27, 44, 63], 27) := by decide +kernel
theorem dX3_allows_28 : decode cX3_allows 28 = .ok (.iload_n 1, 1) := by decide +kernel
theorem dX3_allows_29 : decode cX3_allows 29 = .ok (.iconst 1, 1) := by decide +kernel
theorem dX3_allows_30 : decode cX3_allows 30 = .ok (.if_icmp .lt 13, 3) := by decide +kernel
theorem dX3_allows_33 : decode cX3_allows 33 = .ok (.iload_n 1, 1) := by decide +kernel
theorem dX3_allows_34 : decode cX3_allows 34 = .ok (.bipush 20, 2) := by decide +kernel
theorem dX3_allows_36 : decode cX3_allows 36 = .ok (.if_icmp .gt 7, 3) := by decide +kernel
theorem dX3_allows_39 : decode cX3_allows 39 = .ok (.iconst 1, 1) := by decide +kernel
theorem dX3_allows_40 : decode cX3_allows 40 = .ok (.goto 4, 3) := by decide +kernel
theorem dX3_allows_43 : decode cX3_allows 43 = .ok (.iconst 0, 1) := by decide +kernel
theorem dX3_allows_44 : decode cX3_allows 44 = .ok (.ireturn, 1) := by decide +kernel
theorem dX3_allows_45 : decode cX3_allows 45 = .ok (.iload_n 1, 1) := by decide +kernel
theorem dX3_allows_46 : decode cX3_allows 46 = .ok (.bipush 20, 2) := by decide +kernel
theorem dX3_allows_48 : decode cX3_allows 48 = .ok (.if_icmp .lt 14, 3) := by decide +kernel
theorem dX3_allows_51 : decode cX3_allows 51 = .ok (.iload_n 1, 1) := by decide +kernel
theorem dX3_allows_52 : decode cX3_allows 52 = .ok (.sipush 400, 3) := by decide +kernel
theorem dX3_allows_55 : decode cX3_allows 55 = .ok (.if_icmp .gt 7, 3) := by decide +kernel
theorem dX3_allows_58 : decode cX3_allows 58 = .ok (.iconst 1, 1) := by decide +kernel
theorem dX3_allows_59 : decode cX3_allows 59 = .ok (.goto 4, 3) := by decide +kernel
theorem dX3_allows_62 : decode cX3_allows 62 = .ok (.iconst 0, 1) := by decide +kernel
theorem dX3_allows_63 : decode cX3_allows 63 = .ok (.ireturn, 1) := by decide +kernel
theorem dX3_allows_64 : decode cX3_allows 64 = .ok (.iload_n 1, 1) := by decide +kernel
theorem dX3_allows_65 : decode cX3_allows 65 = .ok (.ifCond .lt 12, 3) := by decide +kernel
theorem dX3_allows_68 : decode cX3_allows 68 = .ok (.iload_n 1, 1) := by decide +kernel
theorem dX3_allows_69 : decode cX3_allows 69 = .ok (.iconst 5, 1) := by decide +kernel
theorem dX3_allows_70 : decode cX3_allows 70 = .ok (.if_icmp .gt 7, 3) := by decide +kernel
theorem dX3_allows_73 : decode cX3_allows 73 = .ok (.iconst 1, 1) := by decide +kernel
theorem dX3_allows_74 : decode cX3_allows 74 = .ok (.goto 4, 3) := by decide +kernel
theorem dX3_allows_77 : decode cX3_allows 77 = .ok (.iconst 0, 1) := by decide +kernel
theorem dX3_allows_78 : decode cX3_allows 78 = .ok (.ireturn, 1) := by decide +kernel
theorem dX3_allows_79 : decode cX3_allows 79 = .ok (.iconst 0, 1) := by decide +kernel
theorem dX3_allows_80 : decode cX3_allows 80 = .ok (.ireturn, 1) := by decide +kernel
theorem dX3_measure_0 : decode cX3_measure 0 = .ok (.iload_n 1, 1) := by decide +kernel
theorem dX3_measure_1 : decode cX3_measure 1 = .ok (.lookupswitch 37 #[(0, 27), (1, 32)], 27) := by decide +kernel
theorem dX3_measure_28 : decode cX3_measure 28 = .ok (.aload_n 0, 1) := by decide +kernel
theorem dX3_measure_29 : decode cX3_measure 29 = .ok (.getfield 13, 3) := by decide +kernel
theorem dX3_measure_32 : decode cX3_measure 32 = .ok (.ireturn, 1) := by decide +kernel
theorem dX3_measure_33 : decode cX3_measure 33 = .ok (.aload_n 0, 1) := by decide +kernel
theorem dX3_measure_34 : decode cX3_measure 34 = .ok (.getfield 17, 3) := by decide +kernel
theorem dX3_measure_37 : decode cX3_measure 37 = .ok (.ireturn, 1) := by decide +kernel
theorem dX3_measure_38 : decode cX3_measure 38 = .ok (.aload_n 0, 1) := by decide +kernel
theorem dX3_measure_39 : decode cX3_measure 39 = .ok (.getfield 20, 3) := by decide +kernel
theorem dX3_measure_42 : decode cX3_measure 42 = .ok (.ireturn, 1) := by decide +kernel
theorem dX3_withMeasure_0 : decode cX3_withMeasure 0 = .ok (.iload_n 1, 1) := by decide +kernel
theorem dX3_withMeasure_1 : decode cX3_withMeasure 1 = .ok (.lookupswitch 69 #[(0, 27), (1, 48)], 27) := by decide +kernel
theorem dX3_withMeasure_28 : decode cX3_withMeasure 28 = .ok (.new 8, 3) := by decide +kernel
theorem dX3_withMeasure_31 : decode cX3_withMeasure 31 = .ok (.dup, 1) := by decide +kernel
theorem dX3_withMeasure_32 : decode cX3_withMeasure 32 = .ok (.aload_n 0, 1) := by decide +kernel
theorem dX3_withMeasure_33 : decode cX3_withMeasure 33 = .ok (.getfield 7, 3) := by decide +kernel
theorem dX3_withMeasure_36 : decode cX3_withMeasure 36 = .ok (.iload_n 2, 1) := by decide +kernel
theorem dX3_withMeasure_37 : decode cX3_withMeasure 37 = .ok (.aload_n 0, 1) := by decide +kernel
theorem dX3_withMeasure_38 : decode cX3_withMeasure 38 = .ok (.getfield 17, 3) := by decide +kernel
theorem dX3_withMeasure_41 : decode cX3_withMeasure 41 = .ok (.aload_n 0, 1) := by decide +kernel
theorem dX3_withMeasure_42 : decode cX3_withMeasure 42 = .ok (.getfield 20, 3) := by decide +kernel
theorem dX3_withMeasure_45 : decode cX3_withMeasure 45 = .ok (.invokespecial 33, 3) := by decide +kernel
theorem dX3_withMeasure_48 : decode cX3_withMeasure 48 = .ok (.areturn, 1) := by decide +kernel
theorem dX3_withMeasure_49 : decode cX3_withMeasure 49 = .ok (.new 8, 3) := by decide +kernel
theorem dX3_withMeasure_52 : decode cX3_withMeasure 52 = .ok (.dup, 1) := by decide +kernel
theorem dX3_withMeasure_53 : decode cX3_withMeasure 53 = .ok (.aload_n 0, 1) := by decide +kernel
theorem dX3_withMeasure_54 : decode cX3_withMeasure 54 = .ok (.getfield 7, 3) := by decide +kernel
theorem dX3_withMeasure_57 : decode cX3_withMeasure 57 = .ok (.aload_n 0, 1) := by decide +kernel
theorem dX3_withMeasure_58 : decode cX3_withMeasure 58 = .ok (.getfield 13, 3) := by decide +kernel
theorem dX3_withMeasure_61 : decode cX3_withMeasure 61 = .ok (.iload_n 2, 1) := by decide +kernel
theorem dX3_withMeasure_62 : decode cX3_withMeasure 62 = .ok (.aload_n 0, 1) := by decide +kernel
theorem dX3_withMeasure_63 : decode cX3_withMeasure 63 = .ok (.getfield 20, 3) := by decide +kernel
theorem dX3_withMeasure_66 : decode cX3_withMeasure 66 = .ok (.invokespecial 33, 3) := by decide +kernel
theorem dX3_withMeasure_69 : decode cX3_withMeasure 69 = .ok (.areturn, 1) := by decide +kernel
theorem dX3_withMeasure_70 : decode cX3_withMeasure 70 = .ok (.new 8, 3) := by decide +kernel
theorem dX3_withMeasure_73 : decode cX3_withMeasure 73 = .ok (.dup, 1) := by decide +kernel
theorem dX3_withMeasure_74 : decode cX3_withMeasure 74 = .ok (.aload_n 0, 1) := by decide +kernel
theorem dX3_withMeasure_75 : decode cX3_withMeasure 75 = .ok (.getfield 7, 3) := by decide +kernel
theorem dX3_withMeasure_78 : decode cX3_withMeasure 78 = .ok (.aload_n 0, 1) := by decide +kernel
theorem dX3_withMeasure_79 : decode cX3_withMeasure 79 = .ok (.getfield 13, 3) := by decide +kernel
theorem dX3_withMeasure_82 : decode cX3_withMeasure 82 = .ok (.aload_n 0, 1) := by decide +kernel
theorem dX3_withMeasure_83 : decode cX3_withMeasure 83 = .ok (.getfield 17, 3) := by decide +kernel
theorem dX3_withMeasure_86 : decode cX3_withMeasure 86 = .ok (.iload_n 2, 1) := by decide +kernel
theorem dX3_withMeasure_87 : decode cX3_withMeasure 87 = .ok (.invokespecial 33, 3) := by decide +kernel
theorem dX3_withMeasure_90 : decode cX3_withMeasure 90 = .ok (.areturn, 1) := by decide +kernel
theorem dX4_init_0 : decode cX4_init 0 = .ok (.aload_n 0, 1) := by decide +kernel
theorem dX4_init_1 : decode cX4_init 1 = .ok (.invokespecial 3, 3) := by decide +kernel
theorem dX4_init_4 : decode cX4_init 4 = .ok (.aload_n 0, 1) := by decide +kernel
theorem dX4_init_5 : decode cX4_init 5 = .ok (.iconst 4, 1) := by decide +kernel
theorem dX4_init_6 : decode cX4_init 6 = .ok (.anewarray 9, 3) := by decide +kernel
theorem dX4_init_9 : decode cX4_init 9 = .ok (.putfield 11, 3) := by decide +kernel
theorem dX4_init_12 : decode cX4_init 12 = .ok (.aload_n 0, 1) := by decide +kernel
theorem dX4_init_13 : decode cX4_init 13 = .ok (.iconst 4, 1) := by decide +kernel
theorem dX4_init_14 : decode cX4_init 14 = .ok (.newarray .int, 2) := by decide +kernel
theorem dX4_init_16 : decode cX4_init 16 = .ok (.putfield 17, 3) := by decide +kernel
theorem dX4_init_19 : decode cX4_init 19 = .ok (.return_, 1) := by decide +kernel
theorem dX4_firstFault_0 : decode cX4_firstFault 0 = .ok (.aload_n 0, 1) := by decide +kernel
theorem dX4_firstFault_1 : decode cX4_firstFault 1 = .ok (.aload_n 1, 1) := by decide +kernel
theorem dX4_firstFault_2 : decode cX4_firstFault 2 = .ok (.putfield 21, 3) := by decide +kernel
theorem dX4_firstFault_5 : decode cX4_firstFault 5 = .ok (.aload_n 0, 1) := by decide +kernel
theorem dX4_firstFault_6 : decode cX4_firstFault 6 = .ok (.iload_n 2, 1) := by decide +kernel
theorem dX4_firstFault_7 : decode cX4_firstFault 7 = .ok (.putfield 25, 3) := by decide +kernel
theorem dX4_firstFault_10 : decode cX4_firstFault 10 = .ok (.aload_n 0, 1) := by decide +kernel
theorem dX4_firstFault_11 : decode cX4_firstFault 11 = .ok (.iconst 0, 1) := by decide +kernel
theorem dX4_firstFault_12 : decode cX4_firstFault 12 = .ok (.putfield 29, 3) := by decide +kernel
theorem dX4_firstFault_15 : decode cX4_firstFault 15 = .ok (.aload_n 0, 1) := by decide +kernel
theorem dX4_firstFault_16 : decode cX4_firstFault 16 = .ok (.iconst 3, 1) := by decide +kernel
theorem dX4_firstFault_17 : decode cX4_firstFault 17 = .ok (.putfield 32, 3) := by decide +kernel
theorem dX4_firstFault_20 : decode cX4_firstFault 20 = .ok (.aload_n 0, 1) := by decide +kernel
theorem dX4_firstFault_21 : decode cX4_firstFault 21 = .ok (.bipush 100, 2) := by decide +kernel
theorem dX4_firstFault_23 : decode cX4_firstFault 23 = .ok (.putfield 35, 3) := by decide +kernel
theorem dX4_firstFault_26 : decode cX4_firstFault 26 = .ok (.aload_n 0, 1) := by decide +kernel
theorem dX4_firstFault_27 : decode cX4_firstFault 27 = .ok (.iconst 1, 1) := by decide +kernel
theorem dX4_firstFault_28 : decode cX4_firstFault 28 = .ok (.putfield 38, 3) := by decide +kernel
theorem dX4_firstFault_31 : decode cX4_firstFault 31 = .ok (.iconst 0, 1) := by decide +kernel
theorem dX4_firstFault_32 : decode cX4_firstFault 32 = .ok (.istore_n 3, 1) := by decide +kernel
theorem dX4_firstFault_33 : decode cX4_firstFault 33 = .ok (.iconst 0, 1) := by decide +kernel
theorem dX4_firstFault_34 : decode cX4_firstFault 34 = .ok (.istore 4, 2) := by decide +kernel
theorem dX4_firstFault_36 : decode cX4_firstFault 36 = .ok (.iload 4, 2) := by decide +kernel
theorem dX4_firstFault_38 : decode cX4_firstFault 38 = .ok (.aload_n 0, 1) := by decide +kernel
theorem dX4_firstFault_39 : decode cX4_firstFault 39 = .ok (.getfield 25, 3) := by decide +kernel
theorem dX4_firstFault_42 : decode cX4_firstFault 42 = .ok (.if_icmp .ge 25, 3) := by decide +kernel
theorem dX4_firstFault_45 : decode cX4_firstFault 45 = .ok (.aload_n 0, 1) := by decide +kernel
theorem dX4_firstFault_46 : decode cX4_firstFault 46 = .ok (.iload 4, 2) := by decide +kernel
theorem dX4_firstFault_48 : decode cX4_firstFault 48 = .ok (.invokevirtual 41, 3) := by decide +kernel
theorem dX4_firstFault_51 : decode cX4_firstFault 51 = .ok (.istore_n 3, 1) := by decide +kernel
theorem dX4_firstFault_52 : decode cX4_firstFault 52 = .ok (.iload_n 3, 1) := by decide +kernel
theorem dX4_firstFault_53 : decode cX4_firstFault 53 = .ok (.iload 4, 2) := by decide +kernel
theorem dX4_firstFault_55 : decode cX4_firstFault 55 = .ok (.if_icmp .gt 6, 3) := by decide +kernel
theorem dX4_firstFault_58 : decode cX4_firstFault 58 = .ok (.iload 4, 2) := by decide +kernel
theorem dX4_firstFault_60 : decode cX4_firstFault 60 = .ok (.ireturn, 1) := by decide +kernel
theorem dX4_firstFault_61 : decode cX4_firstFault 61 = .ok (.iload_n 3, 1) := by decide +kernel
theorem dX4_firstFault_62 : decode cX4_firstFault 62 = .ok (.istore 4, 2) := by decide +kernel
theorem dX4_firstFault_64 : decode cX4_firstFault 64 = .ok (.goto (-28), 3) := by decide +kernel
theorem dX4_firstFault_67 : decode cX4_firstFault 67 = .ok (.bipush (-4), 2) := by decide +kernel
theorem dX4_firstFault_69 : decode cX4_firstFault 69 = .ok (.ireturn, 1) := by decide +kernel
theorem dX4_planRead_0 : decode cX4_planRead 0 = .ok (.iconst 0, 1) := by decide +kernel
theorem dX4_planRead_1 : decode cX4_planRead 1 = .ok (.aload_n 0, 1) := by decide +kernel
theorem dX4_planRead_2 : decode cX4_planRead 2 = .ok (.getfield 29, 3) := by decide +kernel
theorem dX4_planRead_5 : decode cX4_planRead 5 = .ok (.aload_n 0, 1) := by decide +kernel
theorem dX4_planRead_6 : decode cX4_planRead 6 = .ok (.getfield 11, 3) := by decide +kernel
theorem dX4_planRead_9 : decode cX4_planRead 9 = .ok (.arraylength, 1) := by decide +kernel
theorem dX4_planRead_10 : decode cX4_planRead 10 = .ok (.invokestatic 45, 3) := by decide +kernel
theorem dX4_planRead_13 : decode cX4_planRead 13 = .ok (.invokestatic 51, 3) := by decide +kernel
theorem dX4_planRead_16 : decode cX4_planRead 16 = .ok (.anewarray 9, 3) := by decide +kernel
theorem dX4_planRead_19 : decode cX4_planRead 19 = .ok (.astore_n 1, 1) := by decide +kernel
theorem dX4_planRead_20 : decode cX4_planRead 20 = .ok (.iconst 0, 1) := by decide +kernel
theorem dX4_planRead_21 : decode cX4_planRead 21 = .ok (.istore_n 2, 1) := by decide +kernel
theorem dX4_planRead_22 : decode cX4_planRead 22 = .ok (.iload_n 2, 1) := by decide +kernel
theorem dX4_planRead_23 : decode cX4_planRead 23 = .ok (.aload_n 1, 1) := by decide +kernel
theorem dX4_planRead_24 : decode cX4_planRead 24 = .ok (.arraylength, 1) := by decide +kernel
theorem dX4_planRead_25 : decode cX4_planRead 25 = .ok (.if_icmp .ge 18, 3) := by decide +kernel
theorem dX4_planRead_28 : decode cX4_planRead 28 = .ok (.aload_n 1, 1) := by decide +kernel
theorem dX4_planRead_29 : decode cX4_planRead 29 = .ok (.iload_n 2, 1) := by decide +kernel
theorem dX4_planRead_30 : decode cX4_planRead 30 = .ok (.aload_n 0, 1) := by decide +kernel
theorem dX4_planRead_31 : decode cX4_planRead 31 = .ok (.getfield 11, 3) := by decide +kernel
theorem dX4_planRead_34 : decode cX4_planRead 34 = .ok (.iload_n 2, 1) := by decide +kernel
theorem dX4_planRead_35 : decode cX4_planRead 35 = .ok (.aaload, 1) := by decide +kernel
theorem dX4_planRead_36 : decode cX4_planRead 36 = .ok (.aastore, 1) := by decide +kernel
theorem dX4_planRead_37 : decode cX4_planRead 37 = .ok (.iinc 2 1, 3) := by decide +kernel
theorem dX4_planRead_40 : decode cX4_planRead 40 = .ok (.goto (-18), 3) := by decide +kernel
theorem dX4_planRead_43 : decode cX4_planRead 43 = .ok (.new 54, 3) := by decide +kernel
theorem dX4_planRead_46 : decode cX4_planRead 46 = .ok (.dup, 1) := by decide +kernel
theorem dX4_planRead_47 : decode cX4_planRead 47 = .ok (.aload_n 1, 1) := by decide +kernel
theorem dX4_planRead_48 : decode cX4_planRead 48 = .ok (.aload_n 0, 1) := by decide +kernel
theorem dX4_planRead_49 : decode cX4_planRead 49 = .ok (.getfield 32, 3) := by decide +kernel
theorem dX4_planRead_52 : decode cX4_planRead 52 = .ok (.aload_n 0, 1) := by decide +kernel
theorem dX4_planRead_53 : decode cX4_planRead 53 = .ok (.getfield 35, 3) := by decide +kernel
theorem dX4_planRead_56 : decode cX4_planRead 56 = .ok (.aload_n 0, 1) := by decide +kernel
theorem dX4_planRead_57 : decode cX4_planRead 57 = .ok (.getfield 38, 3) := by decide +kernel
theorem dX4_planRead_60 : decode cX4_planRead 60 = .ok (.invokespecial 56, 3) := by decide +kernel
theorem dX4_planRead_63 : decode cX4_planRead 63 = .ok (.areturn, 1) := by decide +kernel
theorem dX4_readItem_0 : decode cX4_readItem 0 = .ok (.aload_n 0, 1) := by decide +kernel
theorem dX4_readItem_1 : decode cX4_readItem 1 = .ok (.iload_n 1, 1) := by decide +kernel
theorem dX4_readItem_2 : decode cX4_readItem 2 = .ok (.invokevirtual 59, 3) := by decide +kernel
theorem dX4_readItem_5 : decode cX4_readItem 5 = .ok (.istore_n 2, 1) := by decide +kernel
theorem dX4_readItem_6 : decode cX4_readItem 6 = .ok (.iload_n 2, 1) := by decide +kernel
theorem dX4_readItem_7 : decode cX4_readItem 7 = .ok (.invokestatic 63, 3) := by decide +kernel
theorem dX4_readItem_10 : decode cX4_readItem 10 = .ok (.istore_n 3, 1) := by decide +kernel
theorem dX4_readItem_11 : decode cX4_readItem 11 = .ok (.iload_n 3, 1) := by decide +kernel
theorem dX4_readItem_12 : decode cX4_readItem 12 = .ok (.iconst 1, 1) := by decide +kernel
theorem dX4_readItem_13 : decode cX4_readItem 13 = .ok (.if_icmp .ge 5, 3) := by decide +kernel
theorem dX4_readItem_16 : decode cX4_readItem 16 = .ok (.iconst (-1), 1) := by decide +kernel
theorem dX4_readItem_17 : decode cX4_readItem 17 = .ok (.ireturn, 1) := by decide +kernel
theorem dX4_readItem_18 : decode cX4_readItem 18 = .ok (.iload_n 1, 1) := by decide +kernel
theorem dX4_readItem_19 : decode cX4_readItem 19 = .ok (.iconst 1, 1) := by decide +kernel
theorem dX4_readItem_20 : decode cX4_readItem 20 = .ok (.iadd, 1) := by decide +kernel
theorem dX4_readItem_21 : decode cX4_readItem 21 = .ok (.istore 4, 2) := by decide +kernel
theorem dX4_readItem_23 : decode cX4_readItem 23 = .ok (.iconst 0, 1) := by decide +kernel
theorem dX4_readItem_24 : decode cX4_readItem 24 = .ok (.istore 5, 2) := by decide +kernel
theorem dX4_readItem_26 : decode cX4_readItem 26 = .ok (.iload 5, 2) := by decide +kernel
theorem dX4_readItem_28 : decode cX4_readItem 28 = .ok (.iload_n 3, 1) := by decide +kernel
theorem dX4_readItem_29 : decode cX4_readItem 29 = .ok (.if_icmp .ge 85, 3) := by decide +kernel
theorem dX4_readItem_32 : decode cX4_readItem 32 = .ok (.iload 5, 2) := by decide +kernel
theorem dX4_readItem_34 : decode cX4_readItem 34 = .ok (.aload_n 0, 1) := by decide +kernel
theorem dX4_readItem_35 : decode cX4_readItem 35 = .ok (.getfield 17, 3) := by decide +kernel
theorem dX4_readItem_38 : decode cX4_readItem 38 = .ok (.arraylength, 1) := by decide +kernel
theorem dX4_readItem_39 : decode cX4_readItem 39 = .ok (.if_icmp .ge 75, 3) := by decide +kernel
theorem dX4_readItem_42 : decode cX4_readItem 42 = .ok (.aload_n 0, 1) := by decide +kernel
theorem dX4_readItem_43 : decode cX4_readItem 43 = .ok (.iload 4, 2) := by decide +kernel
theorem dX4_readItem_45 : decode cX4_readItem 45 = .ok (.invokevirtual 67, 3) := by decide +kernel
theorem dX4_readItem_48 : decode cX4_readItem 48 = .ok (.istore 6, 2) := by decide +kernel
theorem dX4_readItem_50 : decode cX4_readItem 50 = .ok (.iload 5, 2) := by decide +kernel
theorem dX4_readItem_52 : decode cX4_readItem 52 = .ok (.iload_n 3, 1) := by decide +kernel
theorem dX4_readItem_53 : decode cX4_readItem 53 = .ok (.iconst 1, 1) := by decide +kernel
theorem dX4_readItem_54 : decode cX4_readItem 54 = .ok (.isub, 1) := by decide +kernel
theorem dX4_readItem_55 : decode cX4_readItem 55 = .ok (.if_icmp .ne 8, 3) := by decide +kernel
theorem dX4_readItem_58 : decode cX4_readItem 58 = .ok (.bipush 59, 2) := by decide +kernel
theorem dX4_readItem_60 : decode cX4_readItem 60 = .ok (.goto 5, 3) := by decide +kernel
theorem dX4_readItem_63 : decode cX4_readItem 63 = .ok (.bipush 44, 2) := by decide +kernel
theorem dX4_readItem_65 : decode cX4_readItem 65 = .ok (.istore 7, 2) := by decide +kernel
theorem dX4_readItem_67 : decode cX4_readItem 67 = .ok (.iload 6, 2) := by decide +kernel
theorem dX4_readItem_69 : decode cX4_readItem 69 = .ok (.iload 4, 2) := by decide +kernel
theorem dX4_readItem_71 : decode cX4_readItem 71 = .ok (.if_icmp .eq 14, 3) := by decide +kernel
theorem dX4_readItem_74 : decode cX4_readItem 74 = .ok (.aload_n 0, 1) := by decide +kernel
theorem dX4_readItem_75 : decode cX4_readItem 75 = .ok (.iload 6, 2) := by decide +kernel
theorem dX4_readItem_77 : decode cX4_readItem 77 = .ok (.invokevirtual 59, 3) := by decide +kernel
theorem dX4_readItem_80 : decode cX4_readItem 80 = .ok (.iload 7, 2) := by decide +kernel
theorem dX4_readItem_82 : decode cX4_readItem 82 = .ok (.if_icmp .eq 5, 3) := by decide +kernel
theorem dX4_readItem_85 : decode cX4_readItem 85 = .ok (.iconst (-1), 1) := by decide +kernel
theorem dX4_readItem_86 : decode cX4_readItem 86 = .ok (.ireturn, 1) := by decide +kernel
theorem dX4_readItem_87 : decode cX4_readItem 87 = .ok (.aload_n 0, 1) := by decide +kernel
theorem dX4_readItem_88 : decode cX4_readItem 88 = .ok (.getfield 17, 3) := by decide +kernel
theorem dX4_readItem_91 : decode cX4_readItem 91 = .ok (.iload 5, 2) := by decide +kernel
theorem dX4_readItem_93 : decode cX4_readItem 93 = .ok (.aload_n 0, 1) := by decide +kernel
theorem dX4_readItem_94 : decode cX4_readItem 94 = .ok (.iload 4, 2) := by decide +kernel
theorem dX4_readItem_96 : decode cX4_readItem 96 = .ok (.iload 6, 2) := by decide +kernel
theorem dX4_readItem_98 : decode cX4_readItem 98 = .ok (.invokevirtual 70, 3) := by decide +kernel
theorem dX4_readItem_101 : decode cX4_readItem 101 = .ok (.iastore, 1) := by decide +kernel
theorem dX4_readItem_102 : decode cX4_readItem 102 = .ok (.iload 6, 2) := by decide +kernel
theorem dX4_readItem_104 : decode cX4_readItem 104 = .ok (.iconst 1, 1) := by decide +kernel
theorem dX4_readItem_105 : decode cX4_readItem 105 = .ok (.iadd, 1) := by decide +kernel
theorem dX4_readItem_106 : decode cX4_readItem 106 = .ok (.istore 4, 2) := by decide +kernel
theorem dX4_readItem_108 : decode cX4_readItem 108 = .ok (.iinc 5 1, 3) := by decide +kernel
theorem dX4_readItem_111 : decode cX4_readItem 111 = .ok (.goto (-85), 3) := by decide +kernel
theorem dX4_readItem_114 : decode cX4_readItem 114 = .ok (.aload_n 0, 1) := by decide +kernel
theorem dX4_readItem_115 : decode cX4_readItem 115 = .ok (.iload_n 2, 1) := by decide +kernel
theorem dX4_readItem_116 : decode cX4_readItem 116 = .ok (.invokevirtual 73, 3) := by decide +kernel
theorem dX4_readItem_119 : decode cX4_readItem 119 = .ok (.ifCond .eq 8, 3) := by decide +kernel
theorem dX4_readItem_122 : decode cX4_readItem 122 = .ok (.iload 4, 2) := by decide +kernel
theorem dX4_readItem_124 : decode cX4_readItem 124 = .ok (.goto 4, 3) := by decide +kernel
theorem dX4_readItem_127 : decode cX4_readItem 127 = .ok (.iconst (-1), 1) := by decide +kernel
theorem dX4_readItem_128 : decode cX4_readItem 128 = .ok (.ireturn, 1) := by decide +kernel
theorem dX4_numbersOf_0 : decode cX4_numbersOf 0 = .ok (.iload_n 0, 1) := by decide +kernel
theorem dX4_numbersOf_1 : decode cX4_numbersOf 1 = .ok (.lookupswitch 57 #[(98, 53), (108, 51), (113, 51), (114, 51), (117, 55)], 51) := by decide +kernel
theorem dX4_numbersOf_52 : decode cX4_numbersOf 52 = .ok (.iconst 4, 1) := by decide +kernel
theorem dX4_numbersOf_53 : decode cX4_numbersOf 53 = .ok (.ireturn, 1) := by decide +kernel
theorem dX4_numbersOf_54 : decode cX4_numbersOf 54 = .ok (.iconst 2, 1) := by decide +kernel
theorem dX4_numbersOf_55 : decode cX4_numbersOf 55 = .ok (.ireturn, 1) := by decide +kernel
theorem dX4_numbersOf_56 : decode cX4_numbersOf 56 = .ok (.iconst 1, 1) := by decide +kernel
theorem dX4_numbersOf_57 : decode cX4_numbersOf 57 = .ok (.ireturn, 1) := by decide +kernel
theorem dX4_numbersOf_58 : decode cX4_numbersOf 58 = .ok (.iconst 0, 1) := by decide +kernel
theorem dX4_numbersOf_59 : decode cX4_numbersOf 59 = .ok (.ireturn, 1) := by decide +kernel
theorem dX4_letterAt_0 : decode cX4_letterAt 0 = .ok (.aload_n 0, 1) := by decide +kernel
theorem dX4_letterAt_1 : decode cX4_letterAt 1 = .ok (.getfield 21, 3) := by decide +kernel
theorem dX4_letterAt_4 : decode cX4_letterAt 4 = .ok (.ifnull 24, 3) := by decide +kernel
theorem dX4_letterAt_7 : decode cX4_letterAt 7 = .ok (.iload_n 1, 1) := by decide +kernel
theorem dX4_letterAt_8 : decode cX4_letterAt 8 = .ok (.ifCond .lt 20, 3) := by decide +kernel
theorem dX4_letterAt_11 : decode cX4_letterAt 11 = .ok (.iload_n 1, 1) := by decide +kernel
theorem dX4_letterAt_12 : decode cX4_letterAt 12 = .ok (.aload_n 0, 1) := by decide +kernel
theorem dX4_letterAt_13 : decode cX4_letterAt 13 = .ok (.getfield 25, 3) := by decide +kernel
theorem dX4_letterAt_16 : decode cX4_letterAt 16 = .ok (.if_icmp .ge 12, 3) := by decide +kernel
theorem dX4_letterAt_19 : decode cX4_letterAt 19 = .ok (.iload_n 1, 1) := by decide +kernel
theorem dX4_letterAt_20 : decode cX4_letterAt 20 = .ok (.aload_n 0, 1) := by decide +kernel
theorem dX4_letterAt_21 : decode cX4_letterAt 21 = .ok (.getfield 21, 3) := by decide +kernel
theorem dX4_letterAt_24 : decode cX4_letterAt 24 = .ok (.arraylength, 1) := by decide +kernel
theorem dX4_letterAt_25 : decode cX4_letterAt 25 = .ok (.if_icmp .lt 5, 3) := by decide +kernel
theorem dX4_letterAt_28 : decode cX4_letterAt 28 = .ok (.iconst 0, 1) := by decide +kernel
theorem dX4_letterAt_29 : decode cX4_letterAt 29 = .ok (.ireturn, 1) := by decide +kernel
theorem dX4_letterAt_30 : decode cX4_letterAt 30 = .ok (.aload_n 0, 1) := by decide +kernel
theorem dX4_letterAt_31 : decode cX4_letterAt 31 = .ok (.getfield 21, 3) := by decide +kernel
theorem dX4_letterAt_34 : decode cX4_letterAt 34 = .ok (.iload_n 1, 1) := by decide +kernel
theorem dX4_letterAt_35 : decode cX4_letterAt 35 = .ok (.caload, 1) := by decide +kernel
theorem dX4_letterAt_36 : decode cX4_letterAt 36 = .ok (.ireturn, 1) := by decide +kernel
theorem dX4_isFigure_0 : decode cX4_isFigure 0 = .ok (.aload_n 0, 1) := by decide +kernel
theorem dX4_isFigure_1 : decode cX4_isFigure 1 = .ok (.iload_n 1, 1) := by decide +kernel
theorem dX4_isFigure_2 : decode cX4_isFigure 2 = .ok (.invokevirtual 59, 3) := by decide +kernel
theorem dX4_isFigure_5 : decode cX4_isFigure 5 = .ok (.istore_n 2, 1) := by decide +kernel
theorem dX4_isFigure_6 : decode cX4_isFigure 6 = .ok (.iload_n 2, 1) := by decide +kernel
theorem dX4_isFigure_7 : decode cX4_isFigure 7 = .ok (.bipush 48, 2) := by decide +kernel
theorem dX4_isFigure_9 : decode cX4_isFigure 9 = .ok (.if_icmp .lt 13, 3) := by decide +kernel
theorem dX4_isFigure_12 : decode cX4_isFigure 12 = .ok (.iload_n 2, 1) := by decide +kernel
theorem dX4_isFigure_13 : decode cX4_isFigure 13 = .ok (.bipush 57, 2) := by decide +kernel
theorem dX4_isFigure_15 : decode cX4_isFigure 15 = .ok (.if_icmp .gt 7, 3) := by decide +kernel
theorem dX4_isFigure_18 : decode cX4_isFigure 18 = .ok (.iconst 1, 1) := by decide +kernel
theorem dX4_isFigure_19 : decode cX4_isFigure 19 = .ok (.goto 4, 3) := by decide +kernel
theorem dX4_isFigure_22 : decode cX4_isFigure 22 = .ok (.iconst 0, 1) := by decide +kernel
theorem dX4_isFigure_23 : decode cX4_isFigure 23 = .ok (.ireturn, 1) := by decide +kernel
theorem dX4_endOfFigures_0 : decode cX4_endOfFigures 0 = .ok (.iconst 0, 1) := by decide +kernel
theorem dX4_endOfFigures_1 : decode cX4_endOfFigures 1 = .ok (.istore_n 2, 1) := by decide +kernel
theorem dX4_endOfFigures_2 : decode cX4_endOfFigures 2 = .ok (.iload_n 2, 1) := by decide +kernel
theorem dX4_endOfFigures_3 : decode cX4_endOfFigures 3 = .ok (.iconst 3, 1) := by decide +kernel
theorem dX4_endOfFigures_4 : decode cX4_endOfFigures 4 = .ok (.if_icmp .ge 19, 3) := by decide +kernel
theorem dX4_endOfFigures_7 : decode cX4_endOfFigures 7 = .ok (.aload_n 0, 1) := by decide +kernel
theorem dX4_endOfFigures_8 : decode cX4_endOfFigures 8 = .ok (.iload_n 1, 1) := by decide +kernel
theorem dX4_endOfFigures_9 : decode cX4_endOfFigures 9 = .ok (.iload_n 2, 1) := by decide +kernel
theorem dX4_endOfFigures_10 : decode cX4_endOfFigures 10 = .ok (.iadd, 1) := by decide +kernel
theorem dX4_endOfFigures_11 : decode cX4_endOfFigures 11 = .ok (.invokevirtual 77, 3) := by decide +kernel
theorem dX4_endOfFigures_14 : decode cX4_endOfFigures 14 = .ok (.ifCond .eq 9, 3) := by decide +kernel
theorem dX4_endOfFigures_17 : decode cX4_endOfFigures 17 = .ok (.iinc 2 1, 3) := by decide +kernel
theorem dX4_endOfFigures_20 : decode cX4_endOfFigures 20 = .ok (.goto (-18), 3) := by decide +kernel
theorem dX4_endOfFigures_23 : decode cX4_endOfFigures 23 = .ok (.iload_n 1, 1) := by decide +kernel
theorem dX4_endOfFigures_24 : decode cX4_endOfFigures 24 = .ok (.iload_n 2, 1) := by decide +kernel
theorem dX4_endOfFigures_25 : decode cX4_endOfFigures 25 = .ok (.iadd, 1) := by decide +kernel
theorem dX4_endOfFigures_26 : decode cX4_endOfFigures 26 = .ok (.ireturn, 1) := by decide +kernel
theorem dX4_valueOf_0 : decode cX4_valueOf 0 = .ok (.iconst 0, 1) := by decide +kernel
theorem dX4_valueOf_1 : decode cX4_valueOf 1 = .ok (.istore_n 3, 1) := by decide +kernel
theorem dX4_valueOf_2 : decode cX4_valueOf 2 = .ok (.iload_n 1, 1) := by decide +kernel
theorem dX4_valueOf_3 : decode cX4_valueOf 3 = .ok (.istore 4, 2) := by decide +kernel
theorem dX4_valueOf_5 : decode cX4_valueOf 5 = .ok (.iload 4, 2) := by decide +kernel
theorem dX4_valueOf_7 : decode cX4_valueOf 7 = .ok (.iload_n 2, 1) := by decide +kernel
theorem dX4_valueOf_8 : decode cX4_valueOf 8 = .ok (.if_icmp .ge 24, 3) := by decide +kernel
theorem dX4_valueOf_11 : decode cX4_valueOf 11 = .ok (.iload_n 3, 1) := by decide +kernel
theorem dX4_valueOf_12 : decode cX4_valueOf 12 = .ok (.bipush 10, 2) := by decide +kernel
theorem dX4_valueOf_14 : decode cX4_valueOf 14 = .ok (.imul, 1) := by decide +kernel
theorem dX4_valueOf_15 : decode cX4_valueOf 15 = .ok (.aload_n 0, 1) := by decide +kernel
theorem dX4_valueOf_16 : decode cX4_valueOf 16 = .ok (.iload 4, 2) := by decide +kernel
theorem dX4_valueOf_18 : decode cX4_valueOf 18 = .ok (.invokevirtual 59, 3) := by decide +kernel
theorem dX4_valueOf_21 : decode cX4_valueOf 21 = .ok (.iadd, 1) := by decide +kernel
theorem dX4_valueOf_22 : decode cX4_valueOf 22 = .ok (.bipush 48, 2) := by decide +kernel
theorem dX4_valueOf_24 : decode cX4_valueOf 24 = .ok (.isub, 1) := by decide +kernel
theorem dX4_valueOf_25 : decode cX4_valueOf 25 = .ok (.istore_n 3, 1) := by decide +kernel
theorem dX4_valueOf_26 : decode cX4_valueOf 26 = .ok (.iinc 4 1, 3) := by decide +kernel
theorem dX4_valueOf_29 : decode cX4_valueOf 29 = .ok (.goto (-24), 3) := by decide +kernel
theorem dX4_valueOf_32 : decode cX4_valueOf 32 = .ok (.iload_n 3, 1) := by decide +kernel
theorem dX4_valueOf_33 : decode cX4_valueOf 33 = .ok (.ireturn, 1) := by decide +kernel
