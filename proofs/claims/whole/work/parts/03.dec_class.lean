theorem dX0_init_0 : decode cX0_init 0 = .ok (.aload_n 0, 1) := by decide +kernel
theorem dX0_init_1 : decode cX0_init 1 = .ok (.invokespecial 3, 3) := by decide +kernel
theorem dX0_init_4 : decode cX0_init 4 = .ok (.aload_n 0, 1) := by decide +kernel
theorem dX0_init_5 : decode cX0_init 5 = .ok (.bipush 9, 2) := by decide +kernel
theorem dX0_init_7 : decode cX0_init 7 = .ok (.newarray .int, 2) := by decide +kernel
theorem dX0_init_9 : decode cX0_init 9 = .ok (.putfield 9, 3) := by decide +kernel
theorem dX0_init_12 : decode cX0_init 12 = .ok (.aload_n 0, 1) := by decide +kernel
theorem dX0_init_13 : decode cX0_init 13 = .ok (.bipush 9, 2) := by decide +kernel
theorem dX0_init_15 : decode cX0_init 15 = .ok (.newarray .int, 2) := by decide +kernel
theorem dX0_init_17 : decode cX0_init 17 = .ok (.putfield 15, 3) := by decide +kernel
theorem dX0_init_20 : decode cX0_init 20 = .ok (.aload_n 0, 1) := by decide +kernel
theorem dX0_init_21 : decode cX0_init 21 = .ok (.bipush 9, 2) := by decide +kernel
theorem dX0_init_23 : decode cX0_init 23 = .ok (.newarray .int, 2) := by decide +kernel
theorem dX0_init_25 : decode cX0_init 25 = .ok (.putfield 18, 3) := by decide +kernel
theorem dX0_init_28 : decode cX0_init 28 = .ok (.aload_n 0, 1) := by decide +kernel
theorem dX0_init_29 : decode cX0_init 29 = .ok (.bipush 9, 2) := by decide +kernel
theorem dX0_init_31 : decode cX0_init 31 = .ok (.newarray .int, 2) := by decide +kernel
theorem dX0_init_33 : decode cX0_init 33 = .ok (.putfield 21, 3) := by decide +kernel
theorem dX0_init_36 : decode cX0_init 36 = .ok (.aload_n 0, 1) := by decide +kernel
theorem dX0_init_37 : decode cX0_init 37 = .ok (.bipush 6, 2) := by decide +kernel
theorem dX0_init_39 : decode cX0_init 39 = .ok (.newarray .int, 2) := by decide +kernel
theorem dX0_init_41 : decode cX0_init 41 = .ok (.putfield 24, 3) := by decide +kernel
theorem dX0_init_44 : decode cX0_init 44 = .ok (.aload_n 0, 1) := by decide +kernel
theorem dX0_init_45 : decode cX0_init 45 = .ok (.aload_n 1, 1) := by decide +kernel
theorem dX0_init_46 : decode cX0_init 46 = .ok (.putfield 27, 3) := by decide +kernel
theorem dX0_init_49 : decode cX0_init 49 = .ok (.aload_n 0, 1) := by decide +kernel
theorem dX0_init_50 : decode cX0_init 50 = .ok (.aload_n 2, 1) := by decide +kernel
theorem dX0_init_51 : decode cX0_init 51 = .ok (.putfield 31, 3) := by decide +kernel
theorem dX0_init_54 : decode cX0_init 54 = .ok (.return_, 1) := by decide +kernel
theorem dX0_swearersOf_0 : decode cX0_swearersOf 0 = .ok (.iconst 0, 1) := by decide +kernel
theorem dX0_swearersOf_1 : decode cX0_swearersOf 1 = .ok (.istore 5, 2) := by decide +kernel
theorem dX0_swearersOf_3 : decode cX0_swearersOf 3 = .ok (.iconst 0, 1) := by decide +kernel
theorem dX0_swearersOf_4 : decode cX0_swearersOf 4 = .ok (.istore 6, 2) := by decide +kernel
theorem dX0_swearersOf_6 : decode cX0_swearersOf 6 = .ok (.iload 6, 2) := by decide +kernel
theorem dX0_swearersOf_8 : decode cX0_swearersOf 8 = .ok (.aload_n 0, 1) := by decide +kernel
theorem dX0_swearersOf_9 : decode cX0_swearersOf 9 = .ok (.getfield 31, 3) := by decide +kernel
theorem dX0_swearersOf_12 : decode cX0_swearersOf 12 = .ok (.getfield 35, 3) := by decide +kernel
theorem dX0_swearersOf_15 : decode cX0_swearersOf 15 = .ok (.if_icmp .ge 114, 3) := by decide +kernel
theorem dX0_swearersOf_18 : decode cX0_swearersOf 18 = .ok (.iconst 1, 1) := by decide +kernel
theorem dX0_swearersOf_19 : decode cX0_swearersOf 19 = .ok (.iload 6, 2) := by decide +kernel
theorem dX0_swearersOf_21 : decode cX0_swearersOf 21 = .ok (.ishl, 1) := by decide +kernel
theorem dX0_swearersOf_22 : decode cX0_swearersOf 22 = .ok (.istore 7, 2) := by decide +kernel
theorem dX0_swearersOf_24 : decode cX0_swearersOf 24 = .ok (.iload_n 2, 1) := by decide +kernel
theorem dX0_swearersOf_25 : decode cX0_swearersOf 25 = .ok (.aload_n 1, 1) := by decide +kernel
theorem dX0_swearersOf_26 : decode cX0_swearersOf 26 = .ok (.getfield 41, 3) := by decide +kernel
theorem dX0_swearersOf_29 : decode cX0_swearersOf 29 = .ok (.iand, 1) := by decide +kernel
theorem dX0_swearersOf_30 : decode cX0_swearersOf 30 = .ok (.iload 7, 2) := by decide +kernel
theorem dX0_swearersOf_32 : decode cX0_swearersOf 32 = .ok (.iand, 1) := by decide +kernel
theorem dX0_swearersOf_33 : decode cX0_swearersOf 33 = .ok (.ifCond .eq 90, 3) := by decide +kernel
theorem dX0_swearersOf_36 : decode cX0_swearersOf 36 = .ok (.aload_n 0, 1) := by decide +kernel
theorem dX0_swearersOf_37 : decode cX0_swearersOf 37 = .ok (.getfield 9, 3) := by decide +kernel
theorem dX0_swearersOf_40 : decode cX0_swearersOf 40 = .ok (.iconst 0, 1) := by decide +kernel
theorem dX0_swearersOf_41 : decode cX0_swearersOf 41 = .ok (.aload_n 1, 1) := by decide +kernel
theorem dX0_swearersOf_42 : decode cX0_swearersOf 42 = .ok (.getfield 46, 3) := by decide +kernel
theorem dX0_swearersOf_45 : decode cX0_swearersOf 45 = .ok (.iload 6, 2) := by decide +kernel
theorem dX0_swearersOf_47 : decode cX0_swearersOf 47 = .ok (.iaload, 1) := by decide +kernel
theorem dX0_swearersOf_48 : decode cX0_swearersOf 48 = .ok (.iastore, 1) := by decide +kernel
theorem dX0_swearersOf_49 : decode cX0_swearersOf 49 = .ok (.aload_n 0, 1) := by decide +kernel
theorem dX0_swearersOf_50 : decode cX0_swearersOf 50 = .ok (.getfield 9, 3) := by decide +kernel
theorem dX0_swearersOf_53 : decode cX0_swearersOf 53 = .ok (.iconst 1, 1) := by decide +kernel
theorem dX0_swearersOf_54 : decode cX0_swearersOf 54 = .ok (.aload_n 0, 1) := by decide +kernel
theorem dX0_swearersOf_55 : decode cX0_swearersOf 55 = .ok (.getfield 31, 3) := by decide +kernel
theorem dX0_swearersOf_58 : decode cX0_swearersOf 58 = .ok (.getfield 49, 3) := by decide +kernel
theorem dX0_swearersOf_61 : decode cX0_swearersOf 61 = .ok (.iload 6, 2) := by decide +kernel
theorem dX0_swearersOf_63 : decode cX0_swearersOf 63 = .ok (.iaload, 1) := by decide +kernel
theorem dX0_swearersOf_64 : decode cX0_swearersOf 64 = .ok (.iastore, 1) := by decide +kernel
theorem dX0_swearersOf_65 : decode cX0_swearersOf 65 = .ok (.aload_n 0, 1) := by decide +kernel
theorem dX0_swearersOf_66 : decode cX0_swearersOf 66 = .ok (.getfield 9, 3) := by decide +kernel
theorem dX0_swearersOf_69 : decode cX0_swearersOf 69 = .ok (.iconst 2, 1) := by decide +kernel
theorem dX0_swearersOf_70 : decode cX0_swearersOf 70 = .ok (.iload_n 3, 1) := by decide +kernel
theorem dX0_swearersOf_71 : decode cX0_swearersOf 71 = .ok (.iastore, 1) := by decide +kernel
theorem dX0_swearersOf_72 : decode cX0_swearersOf 72 = .ok (.aload_n 0, 1) := by decide +kernel
theorem dX0_swearersOf_73 : decode cX0_swearersOf 73 = .ok (.getfield 9, 3) := by decide +kernel
theorem dX0_swearersOf_76 : decode cX0_swearersOf 76 = .ok (.iconst 3, 1) := by decide +kernel
theorem dX0_swearersOf_77 : decode cX0_swearersOf 77 = .ok (.aload_n 1, 1) := by decide +kernel
theorem dX0_swearersOf_78 : decode cX0_swearersOf 78 = .ok (.getfield 52, 3) := by decide +kernel
theorem dX0_swearersOf_81 : decode cX0_swearersOf 81 = .ok (.iastore, 1) := by decide +kernel
theorem dX0_swearersOf_82 : decode cX0_swearersOf 82 = .ok (.aload_n 0, 1) := by decide +kernel
theorem dX0_swearersOf_83 : decode cX0_swearersOf 83 = .ok (.getfield 9, 3) := by decide +kernel
theorem dX0_swearersOf_86 : decode cX0_swearersOf 86 = .ok (.iconst 4, 1) := by decide +kernel
theorem dX0_swearersOf_87 : decode cX0_swearersOf 87 = .ok (.iload 6, 2) := by decide +kernel
theorem dX0_swearersOf_89 : decode cX0_swearersOf 89 = .ok (.iastore, 1) := by decide +kernel
theorem dX0_swearersOf_90 : decode cX0_swearersOf 90 = .ok (.aload_n 0, 1) := by decide +kernel
theorem dX0_swearersOf_91 : decode cX0_swearersOf 91 = .ok (.getfield 9, 3) := by decide +kernel
theorem dX0_swearersOf_94 : decode cX0_swearersOf 94 = .ok (.iconst 5, 1) := by decide +kernel
theorem dX0_swearersOf_95 : decode cX0_swearersOf 95 = .ok (.iload 4, 2) := by decide +kernel
theorem dX0_swearersOf_97 : decode cX0_swearersOf 97 = .ok (.iastore, 1) := by decide +kernel
theorem dX0_swearersOf_98 : decode cX0_swearersOf 98 = .ok (.aload_n 0, 1) := by decide +kernel
theorem dX0_swearersOf_99 : decode cX0_swearersOf 99 = .ok (.getfield 31, 3) := by decide +kernel
theorem dX0_swearersOf_102 : decode cX0_swearersOf 102 = .ok (.getfield 55, 3) := by decide +kernel
theorem dX0_swearersOf_105 : decode cX0_swearersOf 105 = .ok (.iconst 0, 1) := by decide +kernel
theorem dX0_swearersOf_106 : decode cX0_swearersOf 106 = .ok (.aload_n 0, 1) := by decide +kernel
theorem dX0_swearersOf_107 : decode cX0_swearersOf 107 = .ok (.getfield 9, 3) := by decide +kernel
theorem dX0_swearersOf_110 : decode cX0_swearersOf 110 = .ok (.invokevirtual 59, 3) := by decide +kernel
theorem dX0_swearersOf_113 : decode cX0_swearersOf 113 = .ok (.ifCond .le 10, 3) := by decide +kernel
theorem dX0_swearersOf_116 : decode cX0_swearersOf 116 = .ok (.iload 5, 2) := by decide +kernel
theorem dX0_swearersOf_118 : decode cX0_swearersOf 118 = .ok (.iload 7, 2) := by decide +kernel
theorem dX0_swearersOf_120 : decode cX0_swearersOf 120 = .ok (.ior, 1) := by decide +kernel
theorem dX0_swearersOf_121 : decode cX0_swearersOf 121 = .ok (.istore 5, 2) := by decide +kernel
theorem dX0_swearersOf_123 : decode cX0_swearersOf 123 = .ok (.iinc 6 1, 3) := by decide +kernel
theorem dX0_swearersOf_126 : decode cX0_swearersOf 126 = .ok (.goto (-120), 3) := by decide +kernel
theorem dX0_swearersOf_129 : decode cX0_swearersOf 129 = .ok (.iload 5, 2) := by decide +kernel
theorem dX0_swearersOf_131 : decode cX0_swearersOf 131 = .ok (.ireturn, 1) := by decide +kernel
theorem dX0_swearers_0 : decode cX0_swearers 0 = .ok (.aload_n 0, 1) := by decide +kernel
theorem dX0_swearers_1 : decode cX0_swearers 1 = .ok (.getfield 27, 3) := by decide +kernel
theorem dX0_swearers_4 : decode cX0_swearers 4 = .ok (.getfield 65, 3) := by decide +kernel
theorem dX0_swearers_7 : decode cX0_swearers 7 = .ok (.iload_n 2, 1) := by decide +kernel
theorem dX0_swearers_8 : decode cX0_swearers 8 = .ok (.iaload, 1) := by decide +kernel
theorem dX0_swearers_9 : decode cX0_swearers 9 = .ok (.istore 4, 2) := by decide +kernel
theorem dX0_swearers_11 : decode cX0_swearers 11 = .ok (.aload_n 1, 1) := by decide +kernel
theorem dX0_swearers_12 : decode cX0_swearers 12 = .ok (.getfield 52, 3) := by decide +kernel
theorem dX0_swearers_15 : decode cX0_swearers 15 = .ok (.aload_n 0, 1) := by decide +kernel
theorem dX0_swearers_16 : decode cX0_swearers 16 = .ok (.getfield 27, 3) := by decide +kernel
theorem dX0_swearers_19 : decode cX0_swearers 19 = .ok (.getfield 70, 3) := by decide +kernel
theorem dX0_swearers_22 : decode cX0_swearers 22 = .ok (.iload_n 2, 1) := by decide +kernel
theorem dX0_swearers_23 : decode cX0_swearers 23 = .ok (.iaload, 1) := by decide +kernel
theorem dX0_swearers_24 : decode cX0_swearers 24 = .ok (.isub, 1) := by decide +kernel
theorem dX0_swearers_25 : decode cX0_swearers 25 = .ok (.istore 5, 2) := by decide +kernel
theorem dX0_swearers_27 : decode cX0_swearers 27 = .ok (.aload_n 0, 1) := by decide +kernel
theorem dX0_swearers_28 : decode cX0_swearers 28 = .ok (.aload_n 1, 1) := by decide +kernel
theorem dX0_swearers_29 : decode cX0_swearers 29 = .ok (.iload 4, 2) := by decide +kernel
theorem dX0_swearers_31 : decode cX0_swearers 31 = .ok (.iload_n 3, 1) := by decide +kernel
theorem dX0_swearers_32 : decode cX0_swearers 32 = .ok (.iand, 1) := by decide +kernel
theorem dX0_swearers_33 : decode cX0_swearers 33 = .ok (.iload 5, 2) := by decide +kernel
theorem dX0_swearers_35 : decode cX0_swearers 35 = .ok (.iload 4, 2) := by decide +kernel
theorem dX0_swearers_37 : decode cX0_swearers 37 = .ok (.invokestatic 73, 3) := by decide +kernel
theorem dX0_swearers_40 : decode cX0_swearers 40 = .ok (.invokevirtual 79, 3) := by decide +kernel
theorem dX0_swearers_43 : decode cX0_swearers 43 = .ok (.ireturn, 1) := by decide +kernel
theorem dX0_howManySwear_0 : decode cX0_howManySwear 0 = .ok (.aload_n 0, 1) := by decide +kernel
theorem dX0_howManySwear_1 : decode cX0_howManySwear 1 = .ok (.aload_n 1, 1) := by decide +kernel
theorem dX0_howManySwear_2 : decode cX0_howManySwear 2 = .ok (.iload_n 2, 1) := by decide +kernel
theorem dX0_howManySwear_3 : decode cX0_howManySwear 3 = .ok (.aload_n 0, 1) := by decide +kernel
theorem dX0_howManySwear_4 : decode cX0_howManySwear 4 = .ok (.getfield 27, 3) := by decide +kernel
theorem dX0_howManySwear_7 : decode cX0_howManySwear 7 = .ok (.getfield 65, 3) := by decide +kernel
theorem dX0_howManySwear_10 : decode cX0_howManySwear 10 = .ok (.iload_n 2, 1) := by decide +kernel
theorem dX0_howManySwear_11 : decode cX0_howManySwear 11 = .ok (.iaload, 1) := by decide +kernel
theorem dX0_howManySwear_12 : decode cX0_howManySwear 12 = .ok (.invokevirtual 83, 3) := by decide +kernel
theorem dX0_howManySwear_15 : decode cX0_howManySwear 15 = .ok (.invokestatic 73, 3) := by decide +kernel
theorem dX0_howManySwear_18 : decode cX0_howManySwear 18 = .ok (.ireturn, 1) := by decide +kernel
theorem dX0_swornToBy_0 : decode cX0_swornToBy 0 = .ok (.iconst 0, 1) := by decide +kernel
theorem dX0_swornToBy_1 : decode cX0_swornToBy 1 = .ok (.istore_n 3, 1) := by decide +kernel
theorem dX0_swornToBy_2 : decode cX0_swornToBy 2 = .ok (.iconst 0, 1) := by decide +kernel
theorem dX0_swornToBy_3 : decode cX0_swornToBy 3 = .ok (.istore 4, 2) := by decide +kernel
theorem dX0_swornToBy_5 : decode cX0_swornToBy 5 = .ok (.iload 4, 2) := by decide +kernel
theorem dX0_swornToBy_7 : decode cX0_swornToBy 7 = .ok (.aload_n 1, 1) := by decide +kernel
theorem dX0_swornToBy_8 : decode cX0_swornToBy 8 = .ok (.getfield 87, 3) := by decide +kernel
theorem dX0_swornToBy_11 : decode cX0_swornToBy 11 = .ok (.if_icmp .ge 29, 3) := by decide +kernel
theorem dX0_swornToBy_14 : decode cX0_swornToBy 14 = .ok (.aload_n 0, 1) := by decide +kernel
theorem dX0_swornToBy_15 : decode cX0_swornToBy 15 = .ok (.aload_n 1, 1) := by decide +kernel
theorem dX0_swornToBy_16 : decode cX0_swornToBy 16 = .ok (.iload 4, 2) := by decide +kernel
theorem dX0_swornToBy_18 : decode cX0_swornToBy 18 = .ok (.iconst 1, 1) := by decide +kernel
theorem dX0_swornToBy_19 : decode cX0_swornToBy 19 = .ok (.iload_n 2, 1) := by decide +kernel
theorem dX0_swornToBy_20 : decode cX0_swornToBy 20 = .ok (.ishl, 1) := by decide +kernel
theorem dX0_swornToBy_21 : decode cX0_swornToBy 21 = .ok (.invokevirtual 83, 3) := by decide +kernel
theorem dX0_swornToBy_24 : decode cX0_swornToBy 24 = .ok (.ifCond .eq 10, 3) := by decide +kernel
theorem dX0_swornToBy_27 : decode cX0_swornToBy 27 = .ok (.iload_n 3, 1) := by decide +kernel
theorem dX0_swornToBy_28 : decode cX0_swornToBy 28 = .ok (.iconst 1, 1) := by decide +kernel
theorem dX0_swornToBy_29 : decode cX0_swornToBy 29 = .ok (.iload 4, 2) := by decide +kernel
theorem dX0_swornToBy_31 : decode cX0_swornToBy 31 = .ok (.ishl, 1) := by decide +kernel
theorem dX0_swornToBy_32 : decode cX0_swornToBy 32 = .ok (.ior, 1) := by decide +kernel
theorem dX0_swornToBy_33 : decode cX0_swornToBy 33 = .ok (.istore_n 3, 1) := by decide +kernel
theorem dX0_swornToBy_34 : decode cX0_swornToBy 34 = .ok (.iinc 4 1, 3) := by decide +kernel
theorem dX0_swornToBy_37 : decode cX0_swornToBy 37 = .ok (.goto (-32), 3) := by decide +kernel
theorem dX0_swornToBy_40 : decode cX0_swornToBy 40 = .ok (.iload_n 3, 1) := by decide +kernel
theorem dX0_swornToBy_41 : decode cX0_swornToBy 41 = .ok (.ireturn, 1) := by decide +kernel
theorem dX0_stands_0 : decode cX0_stands 0 = .ok (.aload_n 1, 1) := by decide +kernel
theorem dX0_stands_1 : decode cX0_stands 1 = .ok (.getfield 89, 3) := by decide +kernel
theorem dX0_stands_4 : decode cX0_stands 4 = .ok (.iload_n 2, 1) := by decide +kernel
theorem dX0_stands_5 : decode cX0_stands 5 = .ok (.ishr, 1) := by decide +kernel
theorem dX0_stands_6 : decode cX0_stands 6 = .ok (.iconst 1, 1) := by decide +kernel
theorem dX0_stands_7 : decode cX0_stands 7 = .ok (.iand, 1) := by decide +kernel
theorem dX0_stands_8 : decode cX0_stands 8 = .ok (.ifCond .eq 5, 3) := by decide +kernel
theorem dX0_stands_11 : decode cX0_stands 11 = .ok (.iconst 0, 1) := by decide +kernel
theorem dX0_stands_12 : decode cX0_stands 12 = .ok (.ireturn, 1) := by decide +kernel
theorem dX0_stands_13 : decode cX0_stands 13 = .ok (.aload_n 0, 1) := by decide +kernel
theorem dX0_stands_14 : decode cX0_stands 14 = .ok (.aload_n 1, 1) := by decide +kernel
theorem dX0_stands_15 : decode cX0_stands 15 = .ok (.iload_n 2, 1) := by decide +kernel
theorem dX0_stands_16 : decode cX0_stands 16 = .ok (.aload_n 0, 1) := by decide +kernel
theorem dX0_stands_17 : decode cX0_stands 17 = .ok (.getfield 27, 3) := by decide +kernel
theorem dX0_stands_20 : decode cX0_stands 20 = .ok (.getfield 65, 3) := by decide +kernel
theorem dX0_stands_23 : decode cX0_stands 23 = .ok (.iload_n 2, 1) := by decide +kernel
theorem dX0_stands_24 : decode cX0_stands 24 = .ok (.iaload, 1) := by decide +kernel
theorem dX0_stands_25 : decode cX0_stands 25 = .ok (.invokevirtual 83, 3) := by decide +kernel
theorem dX0_stands_28 : decode cX0_stands 28 = .ok (.invokestatic 73, 3) := by decide +kernel
theorem dX0_stands_31 : decode cX0_stands 31 = .ok (.aload_n 0, 1) := by decide +kernel
theorem dX0_stands_32 : decode cX0_stands 32 = .ok (.getfield 31, 3) := by decide +kernel
theorem dX0_stands_35 : decode cX0_stands 35 = .ok (.getfield 92, 3) := by decide +kernel
theorem dX0_stands_38 : decode cX0_stands 38 = .ok (.if_icmp .lt 7, 3) := by decide +kernel
theorem dX0_stands_41 : decode cX0_stands 41 = .ok (.iconst 1, 1) := by decide +kernel
theorem dX0_stands_42 : decode cX0_stands 42 = .ok (.goto 4, 3) := by decide +kernel
theorem dX0_stands_45 : decode cX0_stands 45 = .ok (.iconst 0, 1) := by decide +kernel
theorem dX0_stands_46 : decode cX0_stands 46 = .ok (.ireturn, 1) := by decide +kernel
theorem dX0_standing_0 : decode cX0_standing 0 = .ok (.iconst 0, 1) := by decide +kernel
theorem dX0_standing_1 : decode cX0_standing 1 = .ok (.istore_n 2, 1) := by decide +kernel
theorem dX0_standing_2 : decode cX0_standing 2 = .ok (.iconst 0, 1) := by decide +kernel
theorem dX0_standing_3 : decode cX0_standing 3 = .ok (.istore_n 3, 1) := by decide +kernel
theorem dX0_standing_4 : decode cX0_standing 4 = .ok (.iload_n 3, 1) := by decide +kernel
theorem dX0_standing_5 : decode cX0_standing 5 = .ok (.aload_n 1, 1) := by decide +kernel
theorem dX0_standing_6 : decode cX0_standing 6 = .ok (.getfield 87, 3) := by decide +kernel
theorem dX0_standing_9 : decode cX0_standing 9 = .ok (.if_icmp .ge 24, 3) := by decide +kernel
theorem dX0_standing_12 : decode cX0_standing 12 = .ok (.aload_n 0, 1) := by decide +kernel
theorem dX0_standing_13 : decode cX0_standing 13 = .ok (.aload_n 1, 1) := by decide +kernel
theorem dX0_standing_14 : decode cX0_standing 14 = .ok (.iload_n 3, 1) := by decide +kernel
theorem dX0_standing_15 : decode cX0_standing 15 = .ok (.invokevirtual 95, 3) := by decide +kernel
theorem dX0_standing_18 : decode cX0_standing 18 = .ok (.ifCond .eq 9, 3) := by decide +kernel
theorem dX0_standing_21 : decode cX0_standing 21 = .ok (.iload_n 2, 1) := by decide +kernel
theorem dX0_standing_22 : decode cX0_standing 22 = .ok (.iconst 1, 1) := by decide +kernel
theorem dX0_standing_23 : decode cX0_standing 23 = .ok (.iload_n 3, 1) := by decide +kernel
theorem dX0_standing_24 : decode cX0_standing 24 = .ok (.ishl, 1) := by decide +kernel
theorem dX0_standing_25 : decode cX0_standing 25 = .ok (.ior, 1) := by decide +kernel
theorem dX0_standing_26 : decode cX0_standing 26 = .ok (.istore_n 2, 1) := by decide +kernel
theorem dX0_standing_27 : decode cX0_standing 27 = .ok (.iinc 3 1, 3) := by decide +kernel
theorem dX0_standing_30 : decode cX0_standing 30 = .ok (.goto (-26), 3) := by decide +kernel
theorem dX0_standing_33 : decode cX0_standing 33 = .ok (.iload_n 2, 1) := by decide +kernel
theorem dX0_standing_34 : decode cX0_standing 34 = .ok (.ireturn, 1) := by decide +kernel
theorem dX0_counting_0 : decode cX0_counting 0 = .ok (.iconst 0, 1) := by decide +kernel
theorem dX0_counting_1 : decode cX0_counting 1 = .ok (.istore_n 3, 1) := by decide +kernel
theorem dX0_counting_2 : decode cX0_counting 2 = .ok (.aload_n 0, 1) := by decide +kernel
theorem dX0_counting_3 : decode cX0_counting 3 = .ok (.getfield 31, 3) := by decide +kernel
theorem dX0_counting_6 : decode cX0_counting 6 = .ok (.getfield 99, 3) := by decide +kernel
theorem dX0_counting_9 : decode cX0_counting 9 = .ok (.iload_n 2, 1) := by decide +kernel
theorem dX0_counting_10 : decode cX0_counting 10 = .ok (.iaload, 1) := by decide +kernel
theorem dX0_counting_11 : decode cX0_counting 11 = .ok (.istore 4, 2) := by decide +kernel
theorem dX0_counting_13 : decode cX0_counting 13 = .ok (.iconst 0, 1) := by decide +kernel
theorem dX0_counting_14 : decode cX0_counting 14 = .ok (.istore 5, 2) := by decide +kernel
theorem dX0_counting_16 : decode cX0_counting 16 = .ok (.iload 5, 2) := by decide +kernel
theorem dX0_counting_18 : decode cX0_counting 18 = .ok (.aload_n 1, 1) := by decide +kernel
theorem dX0_counting_19 : decode cX0_counting 19 = .ok (.getfield 87, 3) := by decide +kernel
theorem dX0_counting_22 : decode cX0_counting 22 = .ok (.if_icmp .ge 67, 3) := by decide +kernel
theorem dX0_counting_25 : decode cX0_counting 25 = .ok (.aload_n 0, 1) := by decide +kernel
theorem dX0_counting_26 : decode cX0_counting 26 = .ok (.getfield 27, 3) := by decide +kernel
theorem dX0_counting_29 : decode cX0_counting 29 = .ok (.getfield 102, 3) := by decide +kernel
theorem dX0_counting_32 : decode cX0_counting 32 = .ok (.iload 5, 2) := by decide +kernel
theorem dX0_counting_34 : decode cX0_counting 34 = .ok (.iaload, 1) := by decide +kernel
theorem dX0_counting_35 : decode cX0_counting 35 = .ok (.iload_n 2, 1) := by decide +kernel
theorem dX0_counting_36 : decode cX0_counting 36 = .ok (.if_icmp .ne 47, 3) := by decide +kernel
theorem dX0_counting_39 : decode cX0_counting 39 = .ok (.aload_n 0, 1) := by decide +kernel
theorem dX0_counting_40 : decode cX0_counting 40 = .ok (.getfield 27, 3) := by decide +kernel
theorem dX0_counting_43 : decode cX0_counting 43 = .ok (.getfield 105, 3) := by decide +kernel
theorem dX0_counting_46 : decode cX0_counting 46 = .ok (.iload 5, 2) := by decide +kernel
theorem dX0_counting_48 : decode cX0_counting 48 = .ok (.iaload, 1) := by decide +kernel
theorem dX0_counting_49 : decode cX0_counting 49 = .ok (.iload 4, 2) := by decide +kernel
theorem dX0_counting_51 : decode cX0_counting 51 = .ok (.if_icmp .ne 32, 3) := by decide +kernel
theorem dX0_counting_54 : decode cX0_counting 54 = .ok (.aload_n 0, 1) := by decide +kernel
theorem dX0_counting_55 : decode cX0_counting 55 = .ok (.aload_n 1, 1) := by decide +kernel
theorem dX0_counting_56 : decode cX0_counting 56 = .ok (.iload 5, 2) := by decide +kernel
theorem dX0_counting_58 : decode cX0_counting 58 = .ok (.invokevirtual 95, 3) := by decide +kernel
theorem dX0_counting_61 : decode cX0_counting 61 = .ok (.ifCond .eq 22, 3) := by decide +kernel
theorem dX0_counting_64 : decode cX0_counting 64 = .ok (.aload_n 0, 1) := by decide +kernel
theorem dX0_counting_65 : decode cX0_counting 65 = .ok (.getfield 27, 3) := by decide +kernel
theorem dX0_counting_68 : decode cX0_counting 68 = .ok (.getfield 108, 3) := by decide +kernel
theorem dX0_counting_71 : decode cX0_counting 71 = .ok (.iload 5, 2) := by decide +kernel
theorem dX0_counting_73 : decode cX0_counting 73 = .ok (.iaload, 1) := by decide +kernel
theorem dX0_counting_74 : decode cX0_counting 74 = .ok (.istore 4, 2) := by decide +kernel
theorem dX0_counting_76 : decode cX0_counting 76 = .ok (.iload_n 3, 1) := by decide +kernel
theorem dX0_counting_77 : decode cX0_counting 77 = .ok (.iconst 1, 1) := by decide +kernel
theorem dX0_counting_78 : decode cX0_counting 78 = .ok (.iload 5, 2) := by decide +kernel
theorem dX0_counting_80 : decode cX0_counting 80 = .ok (.ishl, 1) := by decide +kernel
theorem dX0_counting_81 : decode cX0_counting 81 = .ok (.ior, 1) := by decide +kernel
theorem dX0_counting_82 : decode cX0_counting 82 = .ok (.istore_n 3, 1) := by decide +kernel
theorem dX0_counting_83 : decode cX0_counting 83 = .ok (.iinc 5 1, 3) := by decide +kernel
theorem dX0_counting_86 : decode cX0_counting 86 = .ok (.goto (-70), 3) := by decide +kernel
theorem dX0_counting_89 : decode cX0_counting 89 = .ok (.iload_n 3, 1) := by decide +kernel
theorem dX0_counting_90 : decode cX0_counting 90 = .ok (.ireturn, 1) := by decide +kernel
theorem dX0_countingOfAll_0 : decode cX0_countingOfAll 0 = .ok (.iconst 0, 1) := by decide +kernel
theorem dX0_countingOfAll_1 : decode cX0_countingOfAll 1 = .ok (.istore_n 2, 1) := by decide +kernel
theorem dX0_countingOfAll_2 : decode cX0_countingOfAll 2 = .ok (.iconst 0, 1) := by decide +kernel
theorem dX0_countingOfAll_3 : decode cX0_countingOfAll 3 = .ok (.istore_n 3, 1) := by decide +kernel
theorem dX0_countingOfAll_4 : decode cX0_countingOfAll 4 = .ok (.iload_n 3, 1) := by decide +kernel
theorem dX0_countingOfAll_5 : decode cX0_countingOfAll 5 = .ok (.aload_n 0, 1) := by decide +kernel
theorem dX0_countingOfAll_6 : decode cX0_countingOfAll 6 = .ok (.getfield 31, 3) := by decide +kernel
theorem dX0_countingOfAll_9 : decode cX0_countingOfAll 9 = .ok (.getfield 111, 3) := by decide +kernel
theorem dX0_countingOfAll_12 : decode cX0_countingOfAll 12 = .ok (.if_icmp .ge 18, 3) := by decide +kernel
theorem dX0_countingOfAll_15 : decode cX0_countingOfAll 15 = .ok (.iload_n 2, 1) := by decide +kernel
theorem dX0_countingOfAll_16 : decode cX0_countingOfAll 16 = .ok (.aload_n 0, 1) := by decide +kernel
theorem dX0_countingOfAll_17 : decode cX0_countingOfAll 17 = .ok (.aload_n 1, 1) := by decide +kernel
theorem dX0_countingOfAll_18 : decode cX0_countingOfAll 18 = .ok (.iload_n 3, 1) := by decide +kernel
theorem dX0_countingOfAll_19 : decode cX0_countingOfAll 19 = .ok (.invokevirtual 114, 3) := by decide +kernel
theorem dX0_countingOfAll_22 : decode cX0_countingOfAll 22 = .ok (.ior, 1) := by decide +kernel
theorem dX0_countingOfAll_23 : decode cX0_countingOfAll 23 = .ok (.istore_n 2, 1) := by decide +kernel
theorem dX0_countingOfAll_24 : decode cX0_countingOfAll 24 = .ok (.iinc 3 1, 3) := by decide +kernel
theorem dX0_countingOfAll_27 : decode cX0_countingOfAll 27 = .ok (.goto (-23), 3) := by decide +kernel
theorem dX0_countingOfAll_30 : decode cX0_countingOfAll 30 = .ok (.iload_n 2, 1) := by decide +kernel
theorem dX0_countingOfAll_31 : decode cX0_countingOfAll 31 = .ok (.ireturn, 1) := by decide +kernel
theorem dX0_owner_0 : decode cX0_owner 0 = .ok (.aload_n 0, 1) := by decide +kernel
theorem dX0_owner_1 : decode cX0_owner 1 = .ok (.getfield 31, 3) := by decide +kernel
theorem dX0_owner_4 : decode cX0_owner 4 = .ok (.getfield 99, 3) := by decide +kernel
theorem dX0_owner_7 : decode cX0_owner 7 = .ok (.iload_n 2, 1) := by decide +kernel
theorem dX0_owner_8 : decode cX0_owner 8 = .ok (.iaload, 1) := by decide +kernel
theorem dX0_owner_9 : decode cX0_owner 9 = .ok (.istore_n 3, 1) := by decide +kernel
theorem dX0_owner_10 : decode cX0_owner 10 = .ok (.iconst 0, 1) := by decide +kernel
theorem dX0_owner_11 : decode cX0_owner 11 = .ok (.istore 4, 2) := by decide +kernel
theorem dX0_owner_13 : decode cX0_owner 13 = .ok (.iload 4, 2) := by decide +kernel
theorem dX0_owner_15 : decode cX0_owner 15 = .ok (.aload_n 1, 1) := by decide +kernel
theorem dX0_owner_16 : decode cX0_owner 16 = .ok (.getfield 87, 3) := by decide +kernel
theorem dX0_owner_19 : decode cX0_owner 19 = .ok (.if_icmp .ge 58, 3) := by decide +kernel
theorem dX0_owner_22 : decode cX0_owner 22 = .ok (.aload_n 0, 1) := by decide +kernel
theorem dX0_owner_23 : decode cX0_owner 23 = .ok (.getfield 27, 3) := by decide +kernel
theorem dX0_owner_26 : decode cX0_owner 26 = .ok (.getfield 102, 3) := by decide +kernel
theorem dX0_owner_29 : decode cX0_owner 29 = .ok (.iload 4, 2) := by decide +kernel
theorem dX0_owner_31 : decode cX0_owner 31 = .ok (.iaload, 1) := by decide +kernel
theorem dX0_owner_32 : decode cX0_owner 32 = .ok (.iload_n 2, 1) := by decide +kernel
theorem dX0_owner_33 : decode cX0_owner 33 = .ok (.if_icmp .ne 38, 3) := by decide +kernel
theorem dX0_owner_36 : decode cX0_owner 36 = .ok (.aload_n 0, 1) := by decide +kernel
theorem dX0_owner_37 : decode cX0_owner 37 = .ok (.getfield 27, 3) := by decide +kernel
theorem dX0_owner_40 : decode cX0_owner 40 = .ok (.getfield 105, 3) := by decide +kernel
theorem dX0_owner_43 : decode cX0_owner 43 = .ok (.iload 4, 2) := by decide +kernel
theorem dX0_owner_45 : decode cX0_owner 45 = .ok (.iaload, 1) := by decide +kernel
theorem dX0_owner_46 : decode cX0_owner 46 = .ok (.iload_n 3, 1) := by decide +kernel
theorem dX0_owner_47 : decode cX0_owner 47 = .ok (.if_icmp .ne 24, 3) := by decide +kernel
theorem dX0_owner_50 : decode cX0_owner 50 = .ok (.aload_n 0, 1) := by decide +kernel
theorem dX0_owner_51 : decode cX0_owner 51 = .ok (.aload_n 1, 1) := by decide +kernel
theorem dX0_owner_52 : decode cX0_owner 52 = .ok (.iload 4, 2) := by decide +kernel
theorem dX0_owner_54 : decode cX0_owner 54 = .ok (.invokevirtual 95, 3) := by decide +kernel
theorem dX0_owner_57 : decode cX0_owner 57 = .ok (.ifCond .eq 14, 3) := by decide +kernel
theorem dX0_owner_60 : decode cX0_owner 60 = .ok (.aload_n 0, 1) := by decide +kernel
theorem dX0_owner_61 : decode cX0_owner 61 = .ok (.getfield 27, 3) := by decide +kernel
theorem dX0_owner_64 : decode cX0_owner 64 = .ok (.getfield 108, 3) := by decide +kernel
theorem dX0_owner_67 : decode cX0_owner 67 = .ok (.iload 4, 2) := by decide +kernel
theorem dX0_owner_69 : decode cX0_owner 69 = .ok (.iaload, 1) := by decide +kernel
theorem dX0_owner_70 : decode cX0_owner 70 = .ok (.istore_n 3, 1) := by decide +kernel
theorem dX0_owner_71 : decode cX0_owner 71 = .ok (.iinc 4 1, 3) := by decide +kernel
theorem dX0_owner_74 : decode cX0_owner 74 = .ok (.goto (-61), 3) := by decide +kernel
theorem dX0_owner_77 : decode cX0_owner 77 = .ok (.iload_n 3, 1) := by decide +kernel
theorem dX0_owner_78 : decode cX0_owner 78 = .ok (.ireturn, 1) := by decide +kernel
theorem dX0_ownerByBook_0 : decode cX0_ownerByBook 0 = .ok (.aload_n 0, 1) := by decide +kernel
theorem dX0_ownerByBook_1 : decode cX0_ownerByBook 1 = .ok (.getfield 31, 3) := by decide +kernel
theorem dX0_ownerByBook_4 : decode cX0_ownerByBook 4 = .ok (.getfield 99, 3) := by decide +kernel
theorem dX0_ownerByBook_7 : decode cX0_ownerByBook 7 = .ok (.iload_n 2, 1) := by decide +kernel
theorem dX0_ownerByBook_8 : decode cX0_ownerByBook 8 = .ok (.iaload, 1) := by decide +kernel
theorem dX0_ownerByBook_9 : decode cX0_ownerByBook 9 = .ok (.istore_n 3, 1) := by decide +kernel
theorem dX0_ownerByBook_10 : decode cX0_ownerByBook 10 = .ok (.iconst 0, 1) := by decide +kernel
theorem dX0_ownerByBook_11 : decode cX0_ownerByBook 11 = .ok (.istore 4, 2) := by decide +kernel
theorem dX0_ownerByBook_13 : decode cX0_ownerByBook 13 = .ok (.iload 4, 2) := by decide +kernel
theorem dX0_ownerByBook_15 : decode cX0_ownerByBook 15 = .ok (.aload_n 1, 1) := by decide +kernel
theorem dX0_ownerByBook_16 : decode cX0_ownerByBook 16 = .ok (.getfield 87, 3) := by decide +kernel
theorem dX0_ownerByBook_19 : decode cX0_ownerByBook 19 = .ok (.if_icmp .ge 72, 3) := by decide +kernel
theorem dX0_ownerByBook_22 : decode cX0_ownerByBook 22 = .ok (.aload_n 1, 1) := by decide +kernel
theorem dX0_ownerByBook_23 : decode cX0_ownerByBook 23 = .ok (.getfield 89, 3) := by decide +kernel
theorem dX0_ownerByBook_26 : decode cX0_ownerByBook 26 = .ok (.iload 4, 2) := by decide +kernel
theorem dX0_ownerByBook_28 : decode cX0_ownerByBook 28 = .ok (.ishr, 1) := by decide +kernel
theorem dX0_ownerByBook_29 : decode cX0_ownerByBook 29 = .ok (.iconst 1, 1) := by decide +kernel
theorem dX0_ownerByBook_30 : decode cX0_ownerByBook 30 = .ok (.iand, 1) := by decide +kernel
theorem dX0_ownerByBook_31 : decode cX0_ownerByBook 31 = .ok (.ifCond .ne 7, 3) := by decide +kernel
theorem dX0_ownerByBook_34 : decode cX0_ownerByBook 34 = .ok (.iconst 1, 1) := by decide +kernel
theorem dX0_ownerByBook_35 : decode cX0_ownerByBook 35 = .ok (.goto 4, 3) := by decide +kernel
theorem dX0_ownerByBook_38 : decode cX0_ownerByBook 38 = .ok (.iconst 0, 1) := by decide +kernel
theorem dX0_ownerByBook_39 : decode cX0_ownerByBook 39 = .ok (.istore 5, 2) := by decide +kernel
theorem dX0_ownerByBook_41 : decode cX0_ownerByBook 41 = .ok (.iload 5, 2) := by decide +kernel
theorem dX0_ownerByBook_43 : decode cX0_ownerByBook 43 = .ok (.ifCond .eq 42, 3) := by decide +kernel
theorem dX0_ownerByBook_46 : decode cX0_ownerByBook 46 = .ok (.aload_n 0, 1) := by decide +kernel
theorem dX0_ownerByBook_47 : decode cX0_ownerByBook 47 = .ok (.getfield 27, 3) := by decide +kernel
theorem dX0_ownerByBook_50 : decode cX0_ownerByBook 50 = .ok (.getfield 102, 3) := by decide +kernel
theorem dX0_ownerByBook_53 : decode cX0_ownerByBook 53 = .ok (.iload 4, 2) := by decide +kernel
theorem dX0_ownerByBook_55 : decode cX0_ownerByBook 55 = .ok (.iaload, 1) := by decide +kernel
theorem dX0_ownerByBook_56 : decode cX0_ownerByBook 56 = .ok (.iload_n 2, 1) := by decide +kernel
theorem dX0_ownerByBook_57 : decode cX0_ownerByBook 57 = .ok (.if_icmp .ne 28, 3) := by decide +kernel
theorem dX0_ownerByBook_60 : decode cX0_ownerByBook 60 = .ok (.aload_n 0, 1) := by decide +kernel
theorem dX0_ownerByBook_61 : decode cX0_ownerByBook 61 = .ok (.getfield 27, 3) := by decide +kernel
theorem dX0_ownerByBook_64 : decode cX0_ownerByBook 64 = .ok (.getfield 105, 3) := by decide +kernel
theorem dX0_ownerByBook_67 : decode cX0_ownerByBook 67 = .ok (.iload 4, 2) := by decide +kernel
theorem dX0_ownerByBook_69 : decode cX0_ownerByBook 69 = .ok (.iaload, 1) := by decide +kernel
theorem dX0_ownerByBook_70 : decode cX0_ownerByBook 70 = .ok (.iload_n 3, 1) := by decide +kernel
theorem dX0_ownerByBook_71 : decode cX0_ownerByBook 71 = .ok (.if_icmp .ne 14, 3) := by decide +kernel
theorem dX0_ownerByBook_74 : decode cX0_ownerByBook 74 = .ok (.aload_n 0, 1) := by decide +kernel
theorem dX0_ownerByBook_75 : decode cX0_ownerByBook 75 = .ok (.getfield 27, 3) := by decide +kernel
theorem dX0_ownerByBook_78 : decode cX0_ownerByBook 78 = .ok (.getfield 108, 3) := by decide +kernel
theorem dX0_ownerByBook_81 : decode cX0_ownerByBook 81 = .ok (.iload 4, 2) := by decide +kernel
theorem dX0_ownerByBook_83 : decode cX0_ownerByBook 83 = .ok (.iaload, 1) := by decide +kernel
theorem dX0_ownerByBook_84 : decode cX0_ownerByBook 84 = .ok (.istore_n 3, 1) := by decide +kernel
theorem dX0_ownerByBook_85 : decode cX0_ownerByBook 85 = .ok (.iinc 4 1, 3) := by decide +kernel
theorem dX0_ownerByBook_88 : decode cX0_ownerByBook 88 = .ok (.goto (-75), 3) := by decide +kernel
theorem dX0_ownerByBook_91 : decode cX0_ownerByBook 91 = .ok (.iload_n 3, 1) := by decide +kernel
theorem dX0_ownerByBook_92 : decode cX0_ownerByBook 92 = .ok (.ireturn, 1) := by decide +kernel
theorem dX0_plotsOfOthers_0 : decode cX0_plotsOfOthers 0 = .ok (.iconst 0, 1) := by decide +kernel
theorem dX0_plotsOfOthers_1 : decode cX0_plotsOfOthers 1 = .ok (.istore_n 3, 1) := by decide +kernel
theorem dX0_plotsOfOthers_2 : decode cX0_plotsOfOthers 2 = .ok (.iconst 0, 1) := by decide +kernel
theorem dX0_plotsOfOthers_3 : decode cX0_plotsOfOthers 3 = .ok (.istore 4, 2) := by decide +kernel
theorem dX0_plotsOfOthers_5 : decode cX0_plotsOfOthers 5 = .ok (.iload 4, 2) := by decide +kernel
theorem dX0_plotsOfOthers_7 : decode cX0_plotsOfOthers 7 = .ok (.aload_n 0, 1) := by decide +kernel
theorem dX0_plotsOfOthers_8 : decode cX0_plotsOfOthers 8 = .ok (.getfield 31, 3) := by decide +kernel
theorem dX0_plotsOfOthers_11 : decode cX0_plotsOfOthers 11 = .ok (.getfield 111, 3) := by decide +kernel
theorem dX0_plotsOfOthers_14 : decode cX0_plotsOfOthers 14 = .ok (.if_icmp .ge 29, 3) := by decide +kernel
theorem dX0_plotsOfOthers_17 : decode cX0_plotsOfOthers 17 = .ok (.aload_n 0, 1) := by decide +kernel
theorem dX0_plotsOfOthers_18 : decode cX0_plotsOfOthers 18 = .ok (.aload_n 1, 1) := by decide +kernel
theorem dX0_plotsOfOthers_19 : decode cX0_plotsOfOthers 19 = .ok (.iload 4, 2) := by decide +kernel
theorem dX0_plotsOfOthers_21 : decode cX0_plotsOfOthers 21 = .ok (.invokevirtual 118, 3) := by decide +kernel
theorem dX0_plotsOfOthers_24 : decode cX0_plotsOfOthers 24 = .ok (.aload_n 0, 1) := by decide +kernel
theorem dX0_plotsOfOthers_25 : decode cX0_plotsOfOthers 25 = .ok (.aload_n 2, 1) := by decide +kernel
theorem dX0_plotsOfOthers_26 : decode cX0_plotsOfOthers 26 = .ok (.iload 4, 2) := by decide +kernel
theorem dX0_plotsOfOthers_28 : decode cX0_plotsOfOthers 28 = .ok (.invokevirtual 118, 3) := by decide +kernel
theorem dX0_plotsOfOthers_31 : decode cX0_plotsOfOthers 31 = .ok (.if_icmp .eq 6, 3) := by decide +kernel
theorem dX0_plotsOfOthers_34 : decode cX0_plotsOfOthers 34 = .ok (.iinc 3 1, 3) := by decide +kernel
theorem dX0_plotsOfOthers_37 : decode cX0_plotsOfOthers 37 = .ok (.iinc 4 1, 3) := by decide +kernel
theorem dX0_plotsOfOthers_40 : decode cX0_plotsOfOthers 40 = .ok (.goto (-35), 3) := by decide +kernel
theorem dX0_plotsOfOthers_43 : decode cX0_plotsOfOthers 43 = .ok (.iload_n 3, 1) := by decide +kernel
theorem dX0_plotsOfOthers_44 : decode cX0_plotsOfOthers 44 = .ok (.ireturn, 1) := by decide +kernel
theorem dX0_countPlots_0 : decode cX0_countPlots 0 = .ok (.aload_n 0, 1) := by decide +kernel
theorem dX0_countPlots_1 : decode cX0_countPlots 1 = .ok (.getfield 24, 3) := by decide +kernel
theorem dX0_countPlots_4 : decode cX0_countPlots 4 = .ok (.iconst 0, 1) := by decide +kernel
theorem dX0_countPlots_5 : decode cX0_countPlots 5 = .ok (.invokestatic 121, 3) := by decide +kernel
theorem dX0_countPlots_8 : decode cX0_countPlots 8 = .ok (.iconst 0, 1) := by decide +kernel
theorem dX0_countPlots_9 : decode cX0_countPlots 9 = .ok (.istore_n 2, 1) := by decide +kernel
theorem dX0_countPlots_10 : decode cX0_countPlots 10 = .ok (.iload_n 2, 1) := by decide +kernel
theorem dX0_countPlots_11 : decode cX0_countPlots 11 = .ok (.aload_n 0, 1) := by decide +kernel
theorem dX0_countPlots_12 : decode cX0_countPlots 12 = .ok (.getfield 31, 3) := by decide +kernel
theorem dX0_countPlots_15 : decode cX0_countPlots 15 = .ok (.getfield 111, 3) := by decide +kernel
theorem dX0_countPlots_18 : decode cX0_countPlots 18 = .ok (.if_icmp .ge 39, 3) := by decide +kernel
theorem dX0_countPlots_21 : decode cX0_countPlots 21 = .ok (.aload_n 0, 1) := by decide +kernel
theorem dX0_countPlots_22 : decode cX0_countPlots 22 = .ok (.aload_n 1, 1) := by decide +kernel
theorem dX0_countPlots_23 : decode cX0_countPlots 23 = .ok (.iload_n 2, 1) := by decide +kernel
theorem dX0_countPlots_24 : decode cX0_countPlots 24 = .ok (.invokevirtual 118, 3) := by decide +kernel
theorem dX0_countPlots_27 : decode cX0_countPlots 27 = .ok (.istore_n 3, 1) := by decide +kernel
theorem dX0_countPlots_28 : decode cX0_countPlots 28 = .ok (.iload_n 3, 1) := by decide +kernel
theorem dX0_countPlots_29 : decode cX0_countPlots 29 = .ok (.ifCond .lt 22, 3) := by decide +kernel
theorem dX0_countPlots_32 : decode cX0_countPlots 32 = .ok (.iload_n 3, 1) := by decide +kernel
theorem dX0_countPlots_33 : decode cX0_countPlots 33 = .ok (.aload_n 0, 1) := by decide +kernel
theorem dX0_countPlots_34 : decode cX0_countPlots 34 = .ok (.getfield 24, 3) := by decide +kernel
theorem dX0_countPlots_37 : decode cX0_countPlots 37 = .ok (.arraylength, 1) := by decide +kernel
theorem dX0_countPlots_38 : decode cX0_countPlots 38 = .ok (.if_icmp .ge 13, 3) := by decide +kernel
theorem dX0_countPlots_41 : decode cX0_countPlots 41 = .ok (.aload_n 0, 1) := by decide +kernel
theorem dX0_countPlots_42 : decode cX0_countPlots 42 = .ok (.getfield 24, 3) := by decide +kernel
theorem dX0_countPlots_45 : decode cX0_countPlots 45 = .ok (.iload_n 3, 1) := by decide +kernel
theorem dX0_countPlots_46 : decode cX0_countPlots 46 = .ok (.dup2, 1) := by decide +kernel
theorem dX0_countPlots_47 : decode cX0_countPlots 47 = .ok (.iaload, 1) := by decide +kernel
theorem dX0_countPlots_48 : decode cX0_countPlots 48 = .ok (.iconst 1, 1) := by decide +kernel
theorem dX0_countPlots_49 : decode cX0_countPlots 49 = .ok (.iadd, 1) := by decide +kernel
theorem dX0_countPlots_50 : decode cX0_countPlots 50 = .ok (.iastore, 1) := by decide +kernel
theorem dX0_countPlots_51 : decode cX0_countPlots 51 = .ok (.iinc 2 1, 3) := by decide +kernel
theorem dX0_countPlots_54 : decode cX0_countPlots 54 = .ok (.goto (-44), 3) := by decide +kernel
theorem dX0_countPlots_57 : decode cX0_countPlots 57 = .ok (.return_, 1) := by decide +kernel
theorem dX0_deathIn100_0 : decode cX0_deathIn100 0 = .ok (.aload_n 0, 1) := by decide +kernel
theorem dX0_deathIn100_1 : decode cX0_deathIn100 1 = .ok (.getfield 15, 3) := by decide +kernel
theorem dX0_deathIn100_4 : decode cX0_deathIn100 4 = .ok (.iconst 0, 1) := by decide +kernel
theorem dX0_deathIn100_5 : decode cX0_deathIn100 5 = .ok (.aload_n 1, 1) := by decide +kernel
theorem dX0_deathIn100_6 : decode cX0_deathIn100 6 = .ok (.getfield 46, 3) := by decide +kernel
theorem dX0_deathIn100_9 : decode cX0_deathIn100 9 = .ok (.iload_n 2, 1) := by decide +kernel
theorem dX0_deathIn100_10 : decode cX0_deathIn100 10 = .ok (.iaload, 1) := by decide +kernel
theorem dX0_deathIn100_11 : decode cX0_deathIn100 11 = .ok (.iastore, 1) := by decide +kernel
theorem dX0_deathIn100_12 : decode cX0_deathIn100 12 = .ok (.aload_n 0, 1) := by decide +kernel
theorem dX0_deathIn100_13 : decode cX0_deathIn100 13 = .ok (.getfield 15, 3) := by decide +kernel
theorem dX0_deathIn100_16 : decode cX0_deathIn100 16 = .ok (.iconst 1, 1) := by decide +kernel
theorem dX0_deathIn100_17 : decode cX0_deathIn100 17 = .ok (.aload_n 0, 1) := by decide +kernel
theorem dX0_deathIn100_18 : decode cX0_deathIn100 18 = .ok (.getfield 31, 3) := by decide +kernel
theorem dX0_deathIn100_21 : decode cX0_deathIn100 21 = .ok (.getfield 49, 3) := by decide +kernel
theorem dX0_deathIn100_24 : decode cX0_deathIn100 24 = .ok (.iload_n 2, 1) := by decide +kernel
theorem dX0_deathIn100_25 : decode cX0_deathIn100 25 = .ok (.iaload, 1) := by decide +kernel
theorem dX0_deathIn100_26 : decode cX0_deathIn100 26 = .ok (.iastore, 1) := by decide +kernel
theorem dX0_deathIn100_27 : decode cX0_deathIn100 27 = .ok (.aload_n 0, 1) := by decide +kernel
theorem dX0_deathIn100_28 : decode cX0_deathIn100 28 = .ok (.getfield 15, 3) := by decide +kernel
theorem dX0_deathIn100_31 : decode cX0_deathIn100 31 = .ok (.iconst 3, 1) := by decide +kernel
theorem dX0_deathIn100_32 : decode cX0_deathIn100 32 = .ok (.aload_n 1, 1) := by decide +kernel
theorem dX0_deathIn100_33 : decode cX0_deathIn100 33 = .ok (.getfield 52, 3) := by decide +kernel
theorem dX0_deathIn100_36 : decode cX0_deathIn100 36 = .ok (.iastore, 1) := by decide +kernel
theorem dX0_deathIn100_37 : decode cX0_deathIn100 37 = .ok (.aload_n 0, 1) := by decide +kernel
theorem dX0_deathIn100_38 : decode cX0_deathIn100 38 = .ok (.getfield 15, 3) := by decide +kernel
theorem dX0_deathIn100_41 : decode cX0_deathIn100 41 = .ok (.iconst 4, 1) := by decide +kernel
theorem dX0_deathIn100_42 : decode cX0_deathIn100 42 = .ok (.iload_n 2, 1) := by decide +kernel
theorem dX0_deathIn100_43 : decode cX0_deathIn100 43 = .ok (.iastore, 1) := by decide +kernel
theorem dX0_deathIn100_44 : decode cX0_deathIn100 44 = .ok (.bipush 100, 2) := by decide +kernel
theorem dX0_deathIn100_46 : decode cX0_deathIn100 46 = .ok (.aload_n 0, 1) := by decide +kernel
theorem dX0_deathIn100_47 : decode cX0_deathIn100 47 = .ok (.getfield 31, 3) := by decide +kernel
theorem dX0_deathIn100_50 : decode cX0_deathIn100 50 = .ok (.getfield 55, 3) := by decide +kernel
theorem dX0_deathIn100_53 : decode cX0_deathIn100 53 = .ok (.iconst 1, 1) := by decide +kernel
theorem dX0_deathIn100_54 : decode cX0_deathIn100 54 = .ok (.aload_n 0, 1) := by decide +kernel
theorem dX0_deathIn100_55 : decode cX0_deathIn100 55 = .ok (.getfield 15, 3) := by decide +kernel
theorem dX0_deathIn100_58 : decode cX0_deathIn100 58 = .ok (.invokevirtual 59, 3) := by decide +kernel
theorem dX0_deathIn100_61 : decode cX0_deathIn100 61 = .ok (.invokestatic 127, 3) := by decide +kernel
theorem dX0_deathIn100_64 : decode cX0_deathIn100 64 = .ok (.ireturn, 1) := by decide +kernel
theorem dX0_passYear_0 : decode cX0_passYear 0 = .ok (.iconst 0, 1) := by decide +kernel
theorem dX0_passYear_1 : decode cX0_passYear 1 = .ok (.istore_n 3, 1) := by decide +kernel
theorem dX0_passYear_2 : decode cX0_passYear 2 = .ok (.iload_n 3, 1) := by decide +kernel
theorem dX0_passYear_3 : decode cX0_passYear 3 = .ok (.aload_n 0, 1) := by decide +kernel
theorem dX0_passYear_4 : decode cX0_passYear 4 = .ok (.getfield 31, 3) := by decide +kernel
theorem dX0_passYear_7 : decode cX0_passYear 7 = .ok (.getfield 35, 3) := by decide +kernel
theorem dX0_passYear_10 : decode cX0_passYear 10 = .ok (.if_icmp .ge 68, 3) := by decide +kernel
theorem dX0_passYear_13 : decode cX0_passYear 13 = .ok (.iconst 1, 1) := by decide +kernel
theorem dX0_passYear_14 : decode cX0_passYear 14 = .ok (.iload_n 3, 1) := by decide +kernel
theorem dX0_passYear_15 : decode cX0_passYear 15 = .ok (.ishl, 1) := by decide +kernel
theorem dX0_passYear_16 : decode cX0_passYear 16 = .ok (.istore 4, 2) := by decide +kernel
theorem dX0_passYear_18 : decode cX0_passYear 18 = .ok (.aload_n 1, 1) := by decide +kernel
theorem dX0_passYear_19 : decode cX0_passYear 19 = .ok (.getfield 41, 3) := by decide +kernel
theorem dX0_passYear_22 : decode cX0_passYear 22 = .ok (.iload 4, 2) := by decide +kernel
theorem dX0_passYear_24 : decode cX0_passYear 24 = .ok (.iand, 1) := by decide +kernel
theorem dX0_passYear_25 : decode cX0_passYear 25 = .ok (.ifCond .eq 47, 3) := by decide +kernel
theorem dX0_passYear_28 : decode cX0_passYear 28 = .ok (.aload_n 0, 1) := by decide +kernel
theorem dX0_passYear_29 : decode cX0_passYear 29 = .ok (.aload_n 1, 1) := by decide +kernel
theorem dX0_passYear_30 : decode cX0_passYear 30 = .ok (.iload_n 3, 1) := by decide +kernel
theorem dX0_passYear_31 : decode cX0_passYear 31 = .ok (.invokevirtual 131, 3) := by decide +kernel
theorem dX0_passYear_34 : decode cX0_passYear 34 = .ok (.istore 5, 2) := by decide +kernel
theorem dX0_passYear_36 : decode cX0_passYear 36 = .ok (.iload 5, 2) := by decide +kernel
theorem dX0_passYear_38 : decode cX0_passYear 38 = .ok (.ifCond .le 34, 3) := by decide +kernel
theorem dX0_passYear_41 : decode cX0_passYear 41 = .ok (.iload_n 2, 1) := by decide +kernel
theorem dX0_passYear_42 : decode cX0_passYear 42 = .ok (.bipush 8, 2) := by decide +kernel
theorem dX0_passYear_44 : decode cX0_passYear 44 = .ok (.aload_n 1, 1) := by decide +kernel
theorem dX0_passYear_45 : decode cX0_passYear 45 = .ok (.getfield 52, 3) := by decide +kernel
theorem dX0_passYear_48 : decode cX0_passYear 48 = .ok (.imul, 1) := by decide +kernel
theorem dX0_passYear_49 : decode cX0_passYear 49 = .ok (.iload_n 3, 1) := by decide +kernel
theorem dX0_passYear_50 : decode cX0_passYear 50 = .ok (.iadd, 1) := by decide +kernel
theorem dX0_passYear_51 : decode cX0_passYear 51 = .ok (.invokestatic 134, 3) := by decide +kernel
theorem dX0_passYear_54 : decode cX0_passYear 54 = .ok (.iload 5, 2) := by decide +kernel
theorem dX0_passYear_56 : decode cX0_passYear 56 = .ok (.if_icmp .ge 16, 3) := by decide +kernel
theorem dX0_passYear_59 : decode cX0_passYear 59 = .ok (.aload_n 1, 1) := by decide +kernel
theorem dX0_passYear_60 : decode cX0_passYear 60 = .ok (.dup, 1) := by decide +kernel
theorem dX0_passYear_61 : decode cX0_passYear 61 = .ok (.getfield 41, 3) := by decide +kernel
theorem dX0_passYear_64 : decode cX0_passYear 64 = .ok (.iload 4, 2) := by decide +kernel
theorem dX0_passYear_66 : decode cX0_passYear 66 = .ok (.iconst (-1), 1) := by decide +kernel
theorem dX0_passYear_67 : decode cX0_passYear 67 = .ok (.ixor, 1) := by decide +kernel
theorem dX0_passYear_68 : decode cX0_passYear 68 = .ok (.iand, 1) := by decide +kernel
theorem dX0_passYear_69 : decode cX0_passYear 69 = .ok (.putfield 41, 3) := by decide +kernel
theorem dX0_passYear_72 : decode cX0_passYear 72 = .ok (.iinc 3 1, 3) := by decide +kernel
theorem dX0_passYear_75 : decode cX0_passYear 75 = .ok (.goto (-73), 3) := by decide +kernel
theorem dX0_passYear_78 : decode cX0_passYear 78 = .ok (.aload_n 0, 1) := by decide +kernel
theorem dX0_passYear_79 : decode cX0_passYear 79 = .ok (.aload_n 1, 1) := by decide +kernel
theorem dX0_passYear_80 : decode cX0_passYear 80 = .ok (.invokevirtual 137, 3) := by decide +kernel
theorem dX0_passYear_83 : decode cX0_passYear 83 = .ok (.return_, 1) := by decide +kernel
theorem dX0_passQuietYear_0 : decode cX0_passQuietYear 0 = .ok (.iconst 0, 1) := by decide +kernel
theorem dX0_passQuietYear_1 : decode cX0_passQuietYear 1 = .ok (.istore_n 2, 1) := by decide +kernel
theorem dX0_passQuietYear_2 : decode cX0_passQuietYear 2 = .ok (.iload_n 2, 1) := by decide +kernel
theorem dX0_passQuietYear_3 : decode cX0_passQuietYear 3 = .ok (.aload_n 0, 1) := by decide +kernel
theorem dX0_passQuietYear_4 : decode cX0_passQuietYear 4 = .ok (.getfield 31, 3) := by decide +kernel
theorem dX0_passQuietYear_7 : decode cX0_passQuietYear 7 = .ok (.getfield 35, 3) := by decide +kernel
theorem dX0_passQuietYear_10 : decode cX0_passQuietYear 10 = .ok (.if_icmp .ge 40, 3) := by decide +kernel
theorem dX0_passQuietYear_13 : decode cX0_passQuietYear 13 = .ok (.aload_n 1, 1) := by decide +kernel
theorem dX0_passQuietYear_14 : decode cX0_passQuietYear 14 = .ok (.getfield 41, 3) := by decide +kernel
theorem dX0_passQuietYear_17 : decode cX0_passQuietYear 17 = .ok (.iload_n 2, 1) := by decide +kernel
theorem dX0_passQuietYear_18 : decode cX0_passQuietYear 18 = .ok (.ishr, 1) := by decide +kernel
theorem dX0_passQuietYear_19 : decode cX0_passQuietYear 19 = .ok (.iconst 1, 1) := by decide +kernel
theorem dX0_passQuietYear_20 : decode cX0_passQuietYear 20 = .ok (.iand, 1) := by decide +kernel
theorem dX0_passQuietYear_21 : decode cX0_passQuietYear 21 = .ok (.ifCond .eq 23, 3) := by decide +kernel
theorem dX0_passQuietYear_24 : decode cX0_passQuietYear 24 = .ok (.aload_n 1, 1) := by decide +kernel
theorem dX0_passQuietYear_25 : decode cX0_passQuietYear 25 = .ok (.getfield 46, 3) := by decide +kernel
theorem dX0_passQuietYear_28 : decode cX0_passQuietYear 28 = .ok (.iload_n 2, 1) := by decide +kernel
theorem dX0_passQuietYear_29 : decode cX0_passQuietYear 29 = .ok (.aload_n 1, 1) := by decide +kernel
theorem dX0_passQuietYear_30 : decode cX0_passQuietYear 30 = .ok (.getfield 46, 3) := by decide +kernel
theorem dX0_passQuietYear_33 : decode cX0_passQuietYear 33 = .ok (.iload_n 2, 1) := by decide +kernel
theorem dX0_passQuietYear_34 : decode cX0_passQuietYear 34 = .ok (.iaload, 1) := by decide +kernel
theorem dX0_passQuietYear_35 : decode cX0_passQuietYear 35 = .ok (.iconst 1, 1) := by decide +kernel
theorem dX0_passQuietYear_36 : decode cX0_passQuietYear 36 = .ok (.iadd, 1) := by decide +kernel
theorem dX0_passQuietYear_37 : decode cX0_passQuietYear 37 = .ok (.sipush 999, 3) := by decide +kernel
theorem dX0_passQuietYear_40 : decode cX0_passQuietYear 40 = .ok (.invokestatic 141, 3) := by decide +kernel
theorem dX0_passQuietYear_43 : decode cX0_passQuietYear 43 = .ok (.iastore, 1) := by decide +kernel
theorem dX0_passQuietYear_44 : decode cX0_passQuietYear 44 = .ok (.iinc 2 1, 3) := by decide +kernel
theorem dX0_passQuietYear_47 : decode cX0_passQuietYear 47 = .ok (.goto (-45), 3) := by decide +kernel
theorem dX0_passQuietYear_50 : decode cX0_passQuietYear 50 = .ok (.aload_n 1, 1) := by decide +kernel
theorem dX0_passQuietYear_51 : decode cX0_passQuietYear 51 = .ok (.dup, 1) := by decide +kernel
theorem dX0_passQuietYear_52 : decode cX0_passQuietYear 52 = .ok (.getfield 52, 3) := by decide +kernel
theorem dX0_passQuietYear_55 : decode cX0_passQuietYear 55 = .ok (.iconst 1, 1) := by decide +kernel
theorem dX0_passQuietYear_56 : decode cX0_passQuietYear 56 = .ok (.iadd, 1) := by decide +kernel
theorem dX0_passQuietYear_57 : decode cX0_passQuietYear 57 = .ok (.putfield 52, 3) := by decide +kernel
theorem dX0_passQuietYear_60 : decode cX0_passQuietYear 60 = .ok (.return_, 1) := by decide +kernel
theorem dX0_passYears_0 : decode cX0_passYears 0 = .ok (.iconst 0, 1) := by decide +kernel
theorem dX0_passYears_1 : decode cX0_passYears 1 = .ok (.istore 4, 2) := by decide +kernel
theorem dX0_passYears_3 : decode cX0_passYears 3 = .ok (.iload 4, 2) := by decide +kernel
theorem dX0_passYears_5 : decode cX0_passYears 5 = .ok (.iload_n 2, 1) := by decide +kernel
theorem dX0_passYears_6 : decode cX0_passYears 6 = .ok (.if_icmp .ge 15, 3) := by decide +kernel
theorem dX0_passYears_9 : decode cX0_passYears 9 = .ok (.aload_n 0, 1) := by decide +kernel
theorem dX0_passYears_10 : decode cX0_passYears 10 = .ok (.aload_n 1, 1) := by decide +kernel
theorem dX0_passYears_11 : decode cX0_passYears 11 = .ok (.iload_n 3, 1) := by decide +kernel
theorem dX0_passYears_12 : decode cX0_passYears 12 = .ok (.invokevirtual 146, 3) := by decide +kernel
theorem dX0_passYears_15 : decode cX0_passYears 15 = .ok (.iinc 4 1, 3) := by decide +kernel
theorem dX0_passYears_18 : decode cX0_passYears 18 = .ok (.goto (-15), 3) := by decide +kernel
theorem dX0_passYears_21 : decode cX0_passYears 21 = .ok (.return_, 1) := by decide +kernel
theorem dX0_walking_0 : decode cX0_walking 0 = .ok (.aload_n 0, 1) := by decide +kernel
theorem dX0_walking_1 : decode cX0_walking 1 = .ok (.getfield 18, 3) := by decide +kernel
theorem dX0_walking_4 : decode cX0_walking 4 = .ok (.iconst 3, 1) := by decide +kernel
theorem dX0_walking_5 : decode cX0_walking 5 = .ok (.aload_n 1, 1) := by decide +kernel
theorem dX0_walking_6 : decode cX0_walking 6 = .ok (.getfield 52, 3) := by decide +kernel
theorem dX0_walking_9 : decode cX0_walking 9 = .ok (.iastore, 1) := by decide +kernel
theorem dX0_walking_10 : decode cX0_walking 10 = .ok (.aload_n 0, 1) := by decide +kernel
theorem dX0_walking_11 : decode cX0_walking 11 = .ok (.getfield 18, 3) := by decide +kernel
theorem dX0_walking_14 : decode cX0_walking 14 = .ok (.bipush 6, 2) := by decide +kernel
theorem dX0_walking_16 : decode cX0_walking 16 = .ok (.aload_n 0, 1) := by decide +kernel
theorem dX0_walking_17 : decode cX0_walking 17 = .ok (.getfield 31, 3) := by decide +kernel
theorem dX0_walking_20 : decode cX0_walking 20 = .ok (.getfield 150, 3) := by decide +kernel
theorem dX0_walking_23 : decode cX0_walking 23 = .ok (.iload_n 2, 1) := by decide +kernel
theorem dX0_walking_24 : decode cX0_walking 24 = .ok (.iaload, 1) := by decide +kernel
theorem dX0_walking_25 : decode cX0_walking 25 = .ok (.aload_n 0, 1) := by decide +kernel
theorem dX0_walking_26 : decode cX0_walking 26 = .ok (.getfield 31, 3) := by decide +kernel
theorem dX0_walking_29 : decode cX0_walking 29 = .ok (.getfield 150, 3) := by decide +kernel
theorem dX0_walking_32 : decode cX0_walking 32 = .ok (.iload_n 3, 1) := by decide +kernel
theorem dX0_walking_33 : decode cX0_walking 33 = .ok (.iaload, 1) := by decide +kernel
theorem dX0_walking_34 : decode cX0_walking 34 = .ok (.isub, 1) := by decide +kernel
theorem dX0_walking_35 : decode cX0_walking 35 = .ok (.invokestatic 153, 3) := by decide +kernel
theorem dX0_walking_38 : decode cX0_walking 38 = .ok (.aload_n 0, 1) := by decide +kernel
theorem dX0_walking_39 : decode cX0_walking 39 = .ok (.getfield 31, 3) := by decide +kernel
theorem dX0_walking_42 : decode cX0_walking 42 = .ok (.getfield 156, 3) := by decide +kernel
theorem dX0_walking_45 : decode cX0_walking 45 = .ok (.iload_n 2, 1) := by decide +kernel
theorem dX0_walking_46 : decode cX0_walking 46 = .ok (.iaload, 1) := by decide +kernel
theorem dX0_walking_47 : decode cX0_walking 47 = .ok (.aload_n 0, 1) := by decide +kernel
theorem dX0_walking_48 : decode cX0_walking 48 = .ok (.getfield 31, 3) := by decide +kernel
theorem dX0_walking_51 : decode cX0_walking 51 = .ok (.getfield 156, 3) := by decide +kernel
theorem dX0_walking_54 : decode cX0_walking 54 = .ok (.iload_n 3, 1) := by decide +kernel
theorem dX0_walking_55 : decode cX0_walking 55 = .ok (.iaload, 1) := by decide +kernel
theorem dX0_walking_56 : decode cX0_walking 56 = .ok (.isub, 1) := by decide +kernel
theorem dX0_walking_57 : decode cX0_walking 57 = .ok (.invokestatic 153, 3) := by decide +kernel
theorem dX0_walking_60 : decode cX0_walking 60 = .ok (.iadd, 1) := by decide +kernel
theorem dX0_walking_61 : decode cX0_walking 61 = .ok (.iastore, 1) := by decide +kernel
theorem dX0_walking_62 : decode cX0_walking 62 = .ok (.aload_n 0, 1) := by decide +kernel
theorem dX0_walking_63 : decode cX0_walking 63 = .ok (.getfield 18, 3) := by decide +kernel
theorem dX0_walking_66 : decode cX0_walking 66 = .ok (.bipush 7, 2) := by decide +kernel
theorem dX0_walking_68 : decode cX0_walking 68 = .ok (.aload_n 0, 1) := by decide +kernel
theorem dX0_walking_69 : decode cX0_walking 69 = .ok (.getfield 31, 3) := by decide +kernel
theorem dX0_walking_72 : decode cX0_walking 72 = .ok (.getfield 150, 3) := by decide +kernel
theorem dX0_walking_75 : decode cX0_walking 75 = .ok (.iload_n 3, 1) := by decide +kernel
theorem dX0_walking_76 : decode cX0_walking 76 = .ok (.iaload, 1) := by decide +kernel
theorem dX0_walking_77 : decode cX0_walking 77 = .ok (.iastore, 1) := by decide +kernel
theorem dX0_walking_78 : decode cX0_walking 78 = .ok (.aload_n 0, 1) := by decide +kernel
theorem dX0_walking_79 : decode cX0_walking 79 = .ok (.getfield 18, 3) := by decide +kernel
theorem dX0_walking_82 : decode cX0_walking 82 = .ok (.bipush 8, 2) := by decide +kernel
theorem dX0_walking_84 : decode cX0_walking 84 = .ok (.aload_n 0, 1) := by decide +kernel
theorem dX0_walking_85 : decode cX0_walking 85 = .ok (.getfield 31, 3) := by decide +kernel
theorem dX0_walking_88 : decode cX0_walking 88 = .ok (.getfield 156, 3) := by decide +kernel
theorem dX0_walking_91 : decode cX0_walking 91 = .ok (.iload_n 3, 1) := by decide +kernel
theorem dX0_walking_92 : decode cX0_walking 92 = .ok (.iaload, 1) := by decide +kernel
theorem dX0_walking_93 : decode cX0_walking 93 = .ok (.iastore, 1) := by decide +kernel
theorem dX0_walking_94 : decode cX0_walking 94 = .ok (.bipush 99, 2) := by decide +kernel
theorem dX0_walking_96 : decode cX0_walking 96 = .ok (.aload_n 0, 1) := by decide +kernel
theorem dX0_walking_97 : decode cX0_walking 97 = .ok (.getfield 31, 3) := by decide +kernel
theorem dX0_walking_100 : decode cX0_walking 100 = .ok (.getfield 55, 3) := by decide +kernel
theorem dX0_walking_103 : decode cX0_walking 103 = .ok (.iconst 2, 1) := by decide +kernel
theorem dX0_walking_104 : decode cX0_walking 104 = .ok (.aload_n 0, 1) := by decide +kernel
theorem dX0_walking_105 : decode cX0_walking 105 = .ok (.getfield 18, 3) := by decide +kernel
theorem dX0_walking_108 : decode cX0_walking 108 = .ok (.invokevirtual 59, 3) := by decide +kernel
theorem dX0_walking_111 : decode cX0_walking 111 = .ok (.invokestatic 127, 3) := by decide +kernel
theorem dX0_walking_114 : decode cX0_walking 114 = .ok (.ireturn, 1) := by decide +kernel
theorem dX0_asking_0 : decode cX0_asking 0 = .ok (.aload_n 0, 1) := by decide +kernel
theorem dX0_asking_1 : decode cX0_asking 1 = .ok (.getfield 21, 3) := by decide +kernel
theorem dX0_asking_4 : decode cX0_asking 4 = .ok (.iconst 3, 1) := by decide +kernel
theorem dX0_asking_5 : decode cX0_asking 5 = .ok (.aload_n 1, 1) := by decide +kernel
theorem dX0_asking_6 : decode cX0_asking 6 = .ok (.getfield 52, 3) := by decide +kernel
theorem dX0_asking_9 : decode cX0_asking 9 = .ok (.iastore, 1) := by decide +kernel
theorem dX0_asking_10 : decode cX0_asking 10 = .ok (.aload_n 0, 1) := by decide +kernel
theorem dX0_asking_11 : decode cX0_asking 11 = .ok (.getfield 21, 3) := by decide +kernel
theorem dX0_asking_14 : decode cX0_asking 14 = .ok (.bipush 7, 2) := by decide +kernel
theorem dX0_asking_16 : decode cX0_asking 16 = .ok (.aload_n 0, 1) := by decide +kernel
theorem dX0_asking_17 : decode cX0_asking 17 = .ok (.getfield 31, 3) := by decide +kernel
theorem dX0_asking_20 : decode cX0_asking 20 = .ok (.getfield 150, 3) := by decide +kernel
theorem dX0_asking_23 : decode cX0_asking 23 = .ok (.iload_n 2, 1) := by decide +kernel
theorem dX0_asking_24 : decode cX0_asking 24 = .ok (.iaload, 1) := by decide +kernel
theorem dX0_asking_25 : decode cX0_asking 25 = .ok (.iastore, 1) := by decide +kernel
theorem dX0_asking_26 : decode cX0_asking 26 = .ok (.aload_n 0, 1) := by decide +kernel
theorem dX0_asking_27 : decode cX0_asking 27 = .ok (.getfield 21, 3) := by decide +kernel
theorem dX0_asking_30 : decode cX0_asking 30 = .ok (.bipush 8, 2) := by decide +kernel
theorem dX0_asking_32 : decode cX0_asking 32 = .ok (.aload_n 0, 1) := by decide +kernel
theorem dX0_asking_33 : decode cX0_asking 33 = .ok (.getfield 31, 3) := by decide +kernel
theorem dX0_asking_36 : decode cX0_asking 36 = .ok (.getfield 156, 3) := by decide +kernel
theorem dX0_asking_39 : decode cX0_asking 39 = .ok (.iload_n 2, 1) := by decide +kernel
theorem dX0_asking_40 : decode cX0_asking 40 = .ok (.iaload, 1) := by decide +kernel
theorem dX0_asking_41 : decode cX0_asking 41 = .ok (.iastore, 1) := by decide +kernel
theorem dX0_asking_42 : decode cX0_asking 42 = .ok (.bipush 99, 2) := by decide +kernel
theorem dX0_asking_44 : decode cX0_asking 44 = .ok (.aload_n 0, 1) := by decide +kernel
theorem dX0_asking_45 : decode cX0_asking 45 = .ok (.getfield 31, 3) := by decide +kernel
theorem dX0_asking_48 : decode cX0_asking 48 = .ok (.getfield 55, 3) := by decide +kernel
theorem dX0_asking_51 : decode cX0_asking 51 = .ok (.iconst 3, 1) := by decide +kernel
theorem dX0_asking_52 : decode cX0_asking 52 = .ok (.aload_n 0, 1) := by decide +kernel
theorem dX0_asking_53 : decode cX0_asking 53 = .ok (.getfield 21, 3) := by decide +kernel
theorem dX0_asking_56 : decode cX0_asking 56 = .ok (.invokevirtual 59, 3) := by decide +kernel
theorem dX0_asking_59 : decode cX0_asking 59 = .ok (.invokestatic 127, 3) := by decide +kernel
theorem dX0_asking_62 : decode cX0_asking 62 = .ok (.ireturn, 1) := by decide +kernel
theorem dX0_heldTo_0 : decode cX0_heldTo 0 = .ok (.iconst 0, 1) := by decide +kernel
theorem dX0_heldTo_1 : decode cX0_heldTo 1 = .ok (.iload_n 0, 1) := by decide +kernel
theorem dX0_heldTo_2 : decode cX0_heldTo 2 = .ok (.iload_n 1, 1) := by decide +kernel
theorem dX0_heldTo_3 : decode cX0_heldTo 3 = .ok (.invokestatic 141, 3) := by decide +kernel
theorem dX0_heldTo_6 : decode cX0_heldTo 6 = .ok (.invokestatic 159, 3) := by decide +kernel
theorem dX0_heldTo_9 : decode cX0_heldTo 9 = .ok (.ireturn, 1) := by decide +kernel
theorem dX0_lotOf100_0 : decode cX0_lotOf100 0 = .ok (.iload_n 0, 1) := by decide +kernel
theorem dX0_lotOf100_1 : decode cX0_lotOf100 1 = .ok (.bipush 117, 2) := by decide +kernel
theorem dX0_lotOf100_3 : decode cX0_lotOf100 3 = .ok (.invokestatic 162, 3) := by decide +kernel
theorem dX0_lotOf100_6 : decode cX0_lotOf100 6 = .ok (.iload_n 1, 1) := by decide +kernel
theorem dX0_lotOf100_7 : decode cX0_lotOf100 7 = .ok (.invokestatic 162, 3) := by decide +kernel
theorem dX0_lotOf100_10 : decode cX0_lotOf100 10 = .ok (.istore_n 2, 1) := by decide +kernel
theorem dX0_lotOf100_11 : decode cX0_lotOf100 11 = .ok (.iload_n 2, 1) := by decide +kernel
theorem dX0_lotOf100_12 : decode cX0_lotOf100 12 = .ok (.iconst 1, 1) := by decide +kernel
theorem dX0_lotOf100_13 : decode cX0_lotOf100 13 = .ok (.iushr, 1) := by decide +kernel
theorem dX0_lotOf100_14 : decode cX0_lotOf100 14 = .ok (.bipush 100, 2) := by decide +kernel
theorem dX0_lotOf100_16 : decode cX0_lotOf100 16 = .ok (.irem, 1) := by decide +kernel
theorem dX0_lotOf100_17 : decode cX0_lotOf100 17 = .ok (.ireturn, 1) := by decide +kernel
theorem dX0_stirred_0 : decode cX0_stirred 0 = .ok (.iload_n 0, 1) := by decide +kernel
theorem dX0_stirred_1 : decode cX0_stirred 1 = .ok (.iload_n 1, 1) := by decide +kernel
theorem dX0_stirred_2 : decode cX0_stirred 2 = .ok (.ixor, 1) := by decide +kernel
theorem dX0_stirred_3 : decode cX0_stirred 3 = .ok (.ldc 165, 2) := by decide +kernel
theorem dX0_stirred_5 : decode cX0_stirred 5 = .ok (.imul, 1) := by decide +kernel
theorem dX0_stirred_6 : decode cX0_stirred 6 = .ok (.sipush 12345, 3) := by decide +kernel
theorem dX0_stirred_9 : decode cX0_stirred 9 = .ok (.iadd, 1) := by decide +kernel
theorem dX0_stirred_10 : decode cX0_stirred 10 = .ok (.istore_n 2, 1) := by decide +kernel
theorem dX0_stirred_11 : decode cX0_stirred 11 = .ok (.iload_n 2, 1) := by decide +kernel
theorem dX0_stirred_12 : decode cX0_stirred 12 = .ok (.iload_n 2, 1) := by decide +kernel
theorem dX0_stirred_13 : decode cX0_stirred 13 = .ok (.bipush 15, 2) := by decide +kernel
theorem dX0_stirred_15 : decode cX0_stirred 15 = .ok (.iushr, 1) := by decide +kernel
theorem dX0_stirred_16 : decode cX0_stirred 16 = .ok (.ixor, 1) := by decide +kernel
theorem dX0_stirred_17 : decode cX0_stirred 17 = .ok (.ireturn, 1) := by decide +kernel
theorem dX1_init_0 : decode cX1_init 0 = .ok (.aload_n 0, 1) := by decide +kernel
theorem dX1_init_1 : decode cX1_init 1 = .ok (.invokespecial 3, 3) := by decide +kernel
theorem dX1_init_4 : decode cX1_init 4 = .ok (.aload_n 0, 1) := by decide +kernel
theorem dX1_init_5 : decode cX1_init 5 = .ok (.bipush 20, 2) := by decide +kernel
theorem dX1_init_7 : decode cX1_init 7 = .ok (.newarray .int, 2) := by decide +kernel
theorem dX1_init_9 : decode cX1_init 9 = .ok (.putfield 9, 3) := by decide +kernel
theorem dX1_init_12 : decode cX1_init 12 = .ok (.aload_n 0, 1) := by decide +kernel
theorem dX1_init_13 : decode cX1_init 13 = .ok (.bipush 20, 2) := by decide +kernel
theorem dX1_init_15 : decode cX1_init 15 = .ok (.newarray .int, 2) := by decide +kernel
theorem dX1_init_17 : decode cX1_init 17 = .ok (.putfield 15, 3) := by decide +kernel
theorem dX1_init_20 : decode cX1_init 20 = .ok (.aload_n 0, 1) := by decide +kernel
theorem dX1_init_21 : decode cX1_init 21 = .ok (.bipush 20, 2) := by decide +kernel
theorem dX1_init_23 : decode cX1_init 23 = .ok (.newarray .int, 2) := by decide +kernel
theorem dX1_init_25 : decode cX1_init 25 = .ok (.putfield 18, 3) := by decide +kernel
theorem dX1_init_28 : decode cX1_init 28 = .ok (.aload_n 0, 1) := by decide +kernel
theorem dX1_init_29 : decode cX1_init 29 = .ok (.bipush 20, 2) := by decide +kernel
theorem dX1_init_31 : decode cX1_init 31 = .ok (.newarray .int, 2) := by decide +kernel
theorem dX1_init_33 : decode cX1_init 33 = .ok (.putfield 21, 3) := by decide +kernel
theorem dX1_init_36 : decode cX1_init 36 = .ok (.aload_n 0, 1) := by decide +kernel
theorem dX1_init_37 : decode cX1_init 37 = .ok (.bipush 20, 2) := by decide +kernel
theorem dX1_init_39 : decode cX1_init 39 = .ok (.newarray .int, 2) := by decide +kernel
theorem dX1_init_41 : decode cX1_init 41 = .ok (.putfield 24, 3) := by decide +kernel
theorem dX1_init_44 : decode cX1_init 44 = .ok (.return_, 1) := by decide +kernel
theorem dX1_put_0 : decode cX1_put 0 = .ok (.iload_n 1, 1) := by decide +kernel
theorem dX1_put_1 : decode cX1_put 1 = .ok (.ifCond .lt 47, 3) := by decide +kernel
theorem dX1_put_4 : decode cX1_put 4 = .ok (.iload_n 1, 1) := by decide +kernel
theorem dX1_put_5 : decode cX1_put 5 = .ok (.bipush 20, 2) := by decide +kernel
theorem dX1_put_7 : decode cX1_put 7 = .ok (.if_icmp .ge 41, 3) := by decide +kernel
theorem dX1_put_10 : decode cX1_put 10 = .ok (.aload_n 0, 1) := by decide +kernel
theorem dX1_put_11 : decode cX1_put 11 = .ok (.getfield 9, 3) := by decide +kernel
theorem dX1_put_14 : decode cX1_put 14 = .ok (.iload_n 1, 1) := by decide +kernel
theorem dX1_put_15 : decode cX1_put 15 = .ok (.iload_n 2, 1) := by decide +kernel
theorem dX1_put_16 : decode cX1_put 16 = .ok (.iastore, 1) := by decide +kernel
theorem dX1_put_17 : decode cX1_put 17 = .ok (.aload_n 0, 1) := by decide +kernel
theorem dX1_put_18 : decode cX1_put 18 = .ok (.getfield 15, 3) := by decide +kernel
theorem dX1_put_21 : decode cX1_put 21 = .ok (.iload_n 1, 1) := by decide +kernel
theorem dX1_put_22 : decode cX1_put 22 = .ok (.iload_n 3, 1) := by decide +kernel
theorem dX1_put_23 : decode cX1_put 23 = .ok (.iastore, 1) := by decide +kernel
theorem dX1_put_24 : decode cX1_put 24 = .ok (.aload_n 0, 1) := by decide +kernel
theorem dX1_put_25 : decode cX1_put 25 = .ok (.getfield 18, 3) := by decide +kernel
theorem dX1_put_28 : decode cX1_put 28 = .ok (.iload_n 1, 1) := by decide +kernel
theorem dX1_put_29 : decode cX1_put 29 = .ok (.iload 4, 2) := by decide +kernel
theorem dX1_put_31 : decode cX1_put 31 = .ok (.iastore, 1) := by decide +kernel
theorem dX1_put_32 : decode cX1_put 32 = .ok (.aload_n 0, 1) := by decide +kernel
theorem dX1_put_33 : decode cX1_put 33 = .ok (.getfield 21, 3) := by decide +kernel
theorem dX1_put_36 : decode cX1_put 36 = .ok (.iload_n 1, 1) := by decide +kernel
theorem dX1_put_37 : decode cX1_put 37 = .ok (.iload 5, 2) := by decide +kernel
theorem dX1_put_39 : decode cX1_put 39 = .ok (.iastore, 1) := by decide +kernel
theorem dX1_put_40 : decode cX1_put 40 = .ok (.aload_n 0, 1) := by decide +kernel
theorem dX1_put_41 : decode cX1_put 41 = .ok (.getfield 24, 3) := by decide +kernel
theorem dX1_put_44 : decode cX1_put 44 = .ok (.iload_n 1, 1) := by decide +kernel
theorem dX1_put_45 : decode cX1_put 45 = .ok (.iload 6, 2) := by decide +kernel
theorem dX1_put_47 : decode cX1_put 47 = .ok (.iastore, 1) := by decide +kernel
theorem dX1_put_48 : decode cX1_put 48 = .ok (.return_, 1) := by decide +kernel
theorem dX1_become_0 : decode cX1_become 0 = .ok (.aload_n 1, 1) := by decide +kernel
theorem dX1_become_1 : decode cX1_become 1 = .ok (.getfield 9, 3) := by decide +kernel
theorem dX1_become_4 : decode cX1_become 4 = .ok (.iconst 0, 1) := by decide +kernel
theorem dX1_become_5 : decode cX1_become 5 = .ok (.aload_n 0, 1) := by decide +kernel
theorem dX1_become_6 : decode cX1_become 6 = .ok (.getfield 9, 3) := by decide +kernel
theorem dX1_become_9 : decode cX1_become 9 = .ok (.iconst 0, 1) := by decide +kernel
theorem dX1_become_10 : decode cX1_become 10 = .ok (.bipush 20, 2) := by decide +kernel
theorem dX1_become_12 : decode cX1_become 12 = .ok (.invokestatic 27, 3) := by decide +kernel
theorem dX1_become_15 : decode cX1_become 15 = .ok (.aload_n 1, 1) := by decide +kernel
theorem dX1_become_16 : decode cX1_become 16 = .ok (.getfield 15, 3) := by decide +kernel
theorem dX1_become_19 : decode cX1_become 19 = .ok (.iconst 0, 1) := by decide +kernel
theorem dX1_become_20 : decode cX1_become 20 = .ok (.aload_n 0, 1) := by decide +kernel
theorem dX1_become_21 : decode cX1_become 21 = .ok (.getfield 15, 3) := by decide +kernel
theorem dX1_become_24 : decode cX1_become 24 = .ok (.iconst 0, 1) := by decide +kernel
theorem dX1_become_25 : decode cX1_become 25 = .ok (.bipush 20, 2) := by decide +kernel
theorem dX1_become_27 : decode cX1_become 27 = .ok (.invokestatic 27, 3) := by decide +kernel
theorem dX1_become_30 : decode cX1_become 30 = .ok (.aload_n 1, 1) := by decide +kernel
theorem dX1_become_31 : decode cX1_become 31 = .ok (.getfield 18, 3) := by decide +kernel
theorem dX1_become_34 : decode cX1_become 34 = .ok (.iconst 0, 1) := by decide +kernel
theorem dX1_become_35 : decode cX1_become 35 = .ok (.aload_n 0, 1) := by decide +kernel
theorem dX1_become_36 : decode cX1_become 36 = .ok (.getfield 18, 3) := by decide +kernel
theorem dX1_become_39 : decode cX1_become 39 = .ok (.iconst 0, 1) := by decide +kernel
theorem dX1_become_40 : decode cX1_become 40 = .ok (.bipush 20, 2) := by decide +kernel
theorem dX1_become_42 : decode cX1_become 42 = .ok (.invokestatic 27, 3) := by decide +kernel
theorem dX1_become_45 : decode cX1_become 45 = .ok (.aload_n 1, 1) := by decide +kernel
theorem dX1_become_46 : decode cX1_become 46 = .ok (.getfield 21, 3) := by decide +kernel
theorem dX1_become_49 : decode cX1_become 49 = .ok (.iconst 0, 1) := by decide +kernel
theorem dX1_become_50 : decode cX1_become 50 = .ok (.aload_n 0, 1) := by decide +kernel
theorem dX1_become_51 : decode cX1_become 51 = .ok (.getfield 21, 3) := by decide +kernel
theorem dX1_become_54 : decode cX1_become 54 = .ok (.iconst 0, 1) := by decide +kernel
theorem dX1_become_55 : decode cX1_become 55 = .ok (.bipush 20, 2) := by decide +kernel
theorem dX1_become_57 : decode cX1_become 57 = .ok (.invokestatic 27, 3) := by decide +kernel
theorem dX1_become_60 : decode cX1_become 60 = .ok (.aload_n 1, 1) := by decide +kernel
theorem dX1_become_61 : decode cX1_become 61 = .ok (.getfield 24, 3) := by decide +kernel
theorem dX1_become_64 : decode cX1_become 64 = .ok (.iconst 0, 1) := by decide +kernel
theorem dX1_become_65 : decode cX1_become 65 = .ok (.aload_n 0, 1) := by decide +kernel
theorem dX1_become_66 : decode cX1_become 66 = .ok (.getfield 24, 3) := by decide +kernel
theorem dX1_become_69 : decode cX1_become 69 = .ok (.iconst 0, 1) := by decide +kernel
theorem dX1_become_70 : decode cX1_become 70 = .ok (.bipush 20, 2) := by decide +kernel
theorem dX1_become_72 : decode cX1_become 72 = .ok (.invokestatic 27, 3) := by decide +kernel
theorem dX1_become_75 : decode cX1_become 75 = .ok (.return_, 1) := by decide +kernel
theorem dX1_ofPlot_0 : decode cX1_ofPlot 0 = .ok (.iconst 0, 1) := by decide +kernel
theorem dX1_ofPlot_1 : decode cX1_ofPlot 1 = .ok (.istore_n 3, 1) := by decide +kernel
theorem dX1_ofPlot_2 : decode cX1_ofPlot 2 = .ok (.iconst 0, 1) := by decide +kernel
theorem dX1_ofPlot_3 : decode cX1_ofPlot 3 = .ok (.istore 4, 2) := by decide +kernel
theorem dX1_ofPlot_5 : decode cX1_ofPlot 5 = .ok (.iload 4, 2) := by decide +kernel
theorem dX1_ofPlot_7 : decode cX1_ofPlot 7 = .ok (.iload_n 2, 1) := by decide +kernel
theorem dX1_ofPlot_8 : decode cX1_ofPlot 8 = .ok (.if_icmp .ge 34, 3) := by decide +kernel
theorem dX1_ofPlot_11 : decode cX1_ofPlot 11 = .ok (.iload 4, 2) := by decide +kernel
theorem dX1_ofPlot_13 : decode cX1_ofPlot 13 = .ok (.bipush 20, 2) := by decide +kernel
theorem dX1_ofPlot_15 : decode cX1_ofPlot 15 = .ok (.if_icmp .ge 27, 3) := by decide +kernel
theorem dX1_ofPlot_18 : decode cX1_ofPlot 18 = .ok (.aload_n 0, 1) := by decide +kernel
theorem dX1_ofPlot_19 : decode cX1_ofPlot 19 = .ok (.getfield 9, 3) := by decide +kernel
theorem dX1_ofPlot_22 : decode cX1_ofPlot 22 = .ok (.iload 4, 2) := by decide +kernel
theorem dX1_ofPlot_24 : decode cX1_ofPlot 24 = .ok (.iaload, 1) := by decide +kernel
theorem dX1_ofPlot_25 : decode cX1_ofPlot 25 = .ok (.iload_n 1, 1) := by decide +kernel
theorem dX1_ofPlot_26 : decode cX1_ofPlot 26 = .ok (.if_icmp .ne 10, 3) := by decide +kernel
theorem dX1_ofPlot_29 : decode cX1_ofPlot 29 = .ok (.iload_n 3, 1) := by decide +kernel
theorem dX1_ofPlot_30 : decode cX1_ofPlot 30 = .ok (.iconst 1, 1) := by decide +kernel
theorem dX1_ofPlot_31 : decode cX1_ofPlot 31 = .ok (.iload 4, 2) := by decide +kernel
theorem dX1_ofPlot_33 : decode cX1_ofPlot 33 = .ok (.ishl, 1) := by decide +kernel
theorem dX1_ofPlot_34 : decode cX1_ofPlot 34 = .ok (.ior, 1) := by decide +kernel
theorem dX1_ofPlot_35 : decode cX1_ofPlot 35 = .ok (.istore_n 3, 1) := by decide +kernel
theorem dX1_ofPlot_36 : decode cX1_ofPlot 36 = .ok (.iinc 4 1, 3) := by decide +kernel
theorem dX1_ofPlot_39 : decode cX1_ofPlot 39 = .ok (.goto (-34), 3) := by decide +kernel
theorem dX1_ofPlot_42 : decode cX1_ofPlot 42 = .ok (.iload_n 3, 1) := by decide +kernel
theorem dX1_ofPlot_43 : decode cX1_ofPlot 43 = .ok (.ireturn, 1) := by decide +kernel
theorem dX2_init_0 : decode cX2_init 0 = .ok (.aload_n 0, 1) := by decide +kernel
theorem dX2_init_1 : decode cX2_init 1 = .ok (.invokespecial 3, 3) := by decide +kernel
theorem dX2_init_4 : decode cX2_init 4 = .ok (.aload_n 0, 1) := by decide +kernel
theorem dX2_init_5 : decode cX2_init 5 = .ok (.iconst 0, 1) := by decide +kernel
theorem dX2_init_6 : decode cX2_init 6 = .ok (.putfield 9, 3) := by decide +kernel
theorem dX2_init_9 : decode cX2_init 9 = .ok (.aload_n 0, 1) := by decide +kernel
theorem dX2_init_10 : decode cX2_init 10 = .ok (.iconst 0, 1) := by decide +kernel
theorem dX2_init_11 : decode cX2_init 11 = .ok (.putfield 15, 3) := by decide +kernel
theorem dX2_init_14 : decode cX2_init 14 = .ok (.aload_n 0, 1) := by decide +kernel
theorem dX2_init_15 : decode cX2_init 15 = .ok (.iconst 0, 1) := by decide +kernel
theorem dX2_init_16 : decode cX2_init 16 = .ok (.putfield 18, 3) := by decide +kernel
theorem dX2_init_19 : decode cX2_init 19 = .ok (.aload_n 0, 1) := by decide +kernel
theorem dX2_init_20 : decode cX2_init 20 = .ok (.iconst 0, 1) := by decide +kernel
theorem dX2_init_21 : decode cX2_init 21 = .ok (.putfield 21, 3) := by decide +kernel
theorem dX2_init_24 : decode cX2_init 24 = .ok (.aload_n 0, 1) := by decide +kernel
theorem dX2_init_25 : decode cX2_init 25 = .ok (.iconst 0, 1) := by decide +kernel
theorem dX2_init_26 : decode cX2_init 26 = .ok (.putfield 24, 3) := by decide +kernel
theorem dX2_init_29 : decode cX2_init 29 = .ok (.aload_n 0, 1) := by decide +kernel
theorem dX2_init_30 : decode cX2_init 30 = .ok (.bipush 21, 2) := by decide +kernel
theorem dX2_init_32 : decode cX2_init 32 = .ok (.newarray .int, 2) := by decide +kernel
theorem dX2_init_34 : decode cX2_init 34 = .ok (.putfield 27, 3) := by decide +kernel
theorem dX2_init_37 : decode cX2_init 37 = .ok (.aload_n 0, 1) := by decide +kernel
theorem dX2_init_38 : decode cX2_init 38 = .ok (.iconst 0, 1) := by decide +kernel
theorem dX2_init_39 : decode cX2_init 39 = .ok (.putfield 31, 3) := by decide +kernel
theorem dX2_init_42 : decode cX2_init 42 = .ok (.aload_n 0, 1) := by decide +kernel
theorem dX2_init_43 : decode cX2_init 43 = .ok (.iconst 0, 1) := by decide +kernel
theorem dX2_init_44 : decode cX2_init 44 = .ok (.putfield 34, 3) := by decide +kernel
theorem dX2_init_47 : decode cX2_init 47 = .ok (.aload_n 0, 1) := by decide +kernel
theorem dX2_init_48 : decode cX2_init 48 = .ok (.aload_n 1, 1) := by decide +kernel
theorem dX2_init_49 : decode cX2_init 49 = .ok (.putfield 37, 3) := by decide +kernel
theorem dX2_init_52 : decode cX2_init 52 = .ok (.aload_n 0, 1) := by decide +kernel
theorem dX2_init_53 : decode cX2_init 53 = .ok (.aload_n 2, 1) := by decide +kernel
theorem dX2_init_54 : decode cX2_init 54 = .ok (.getfield 41, 3) := by decide +kernel
theorem dX2_init_57 : decode cX2_init 57 = .ok (.putfield 47, 3) := by decide +kernel
theorem dX2_init_60 : decode cX2_init 60 = .ok (.return_, 1) := by decide +kernel
theorem dX2_keeps_0 : decode cX2_keeps 0 = .ok (.aload_n 0, 1) := by decide +kernel
theorem dX2_keeps_1 : decode cX2_keeps 1 = .ok (.aload_n 1, 1) := by decide +kernel
theorem dX2_keeps_2 : decode cX2_keeps 2 = .ok (.getfield 41, 3) := by decide +kernel
theorem dX2_keeps_5 : decode cX2_keeps 5 = .ok (.putfield 47, 3) := by decide +kernel
theorem dX2_keeps_8 : decode cX2_keeps 8 = .ok (.aload_n 0, 1) := by decide +kernel
theorem dX2_keeps_9 : decode cX2_keeps 9 = .ok (.iconst 0, 1) := by decide +kernel
theorem dX2_keeps_10 : decode cX2_keeps 10 = .ok (.putfield 9, 3) := by decide +kernel
theorem dX2_keeps_13 : decode cX2_keeps 13 = .ok (.aload_n 0, 1) := by decide +kernel
theorem dX2_keeps_14 : decode cX2_keeps 14 = .ok (.iconst 0, 1) := by decide +kernel
theorem dX2_keeps_15 : decode cX2_keeps 15 = .ok (.putfield 15, 3) := by decide +kernel
theorem dX2_keeps_18 : decode cX2_keeps 18 = .ok (.aload_n 0, 1) := by decide +kernel
theorem dX2_keeps_19 : decode cX2_keeps 19 = .ok (.iconst 0, 1) := by decide +kernel
theorem dX2_keeps_20 : decode cX2_keeps 20 = .ok (.putfield 18, 3) := by decide +kernel
theorem dX2_keeps_23 : decode cX2_keeps 23 = .ok (.aload_n 0, 1) := by decide +kernel
theorem dX2_keeps_24 : decode cX2_keeps 24 = .ok (.iconst 0, 1) := by decide +kernel
theorem dX2_keeps_25 : decode cX2_keeps 25 = .ok (.putfield 21, 3) := by decide +kernel
theorem dX2_keeps_28 : decode cX2_keeps 28 = .ok (.aload_n 0, 1) := by decide +kernel
theorem dX2_keeps_29 : decode cX2_keeps 29 = .ok (.iconst 0, 1) := by decide +kernel
theorem dX2_keeps_30 : decode cX2_keeps 30 = .ok (.putfield 24, 3) := by decide +kernel
theorem dX2_keeps_33 : decode cX2_keeps 33 = .ok (.iconst 0, 1) := by decide +kernel
theorem dX2_keeps_34 : decode cX2_keeps 34 = .ok (.istore_n 2, 1) := by decide +kernel
theorem dX2_keeps_35 : decode cX2_keeps 35 = .ok (.iload_n 2, 1) := by decide +kernel
theorem dX2_keeps_36 : decode cX2_keeps 36 = .ok (.sipush 400, 3) := by decide +kernel
theorem dX2_keeps_39 : decode cX2_keeps 39 = .ok (.if_icmp .gt 80, 3) := by decide +kernel
theorem dX2_keeps_42 : decode cX2_keeps 42 = .ok (.aload_n 0, 1) := by decide +kernel
theorem dX2_keeps_43 : decode cX2_keeps 43 = .ok (.getfield 37, 3) := by decide +kernel
theorem dX2_keeps_46 : decode cX2_keeps 46 = .ok (.aload_n 0, 1) := by decide +kernel
theorem dX2_keeps_47 : decode cX2_keeps 47 = .ok (.getfield 9, 3) := by decide +kernel
theorem dX2_keeps_50 : decode cX2_keeps 50 = .ok (.invokevirtual 48, 3) := by decide +kernel
theorem dX2_keeps_53 : decode cX2_keeps 53 = .ok (.ifCond .eq 66, 3) := by decide +kernel
theorem dX2_keeps_56 : decode cX2_keeps 56 = .ok (.aload_n 0, 1) := by decide +kernel
theorem dX2_keeps_57 : decode cX2_keeps 57 = .ok (.getfield 37, 3) := by decide +kernel
theorem dX2_keeps_60 : decode cX2_keeps 60 = .ok (.aload_n 0, 1) := by decide +kernel
theorem dX2_keeps_61 : decode cX2_keeps 61 = .ok (.getfield 9, 3) := by decide +kernel
theorem dX2_keeps_64 : decode cX2_keeps 64 = .ok (.invokevirtual 48, 3) := by decide +kernel
theorem dX2_keeps_67 : decode cX2_keeps 67 = .ok (.istore_n 3, 1) := by decide +kernel
theorem dX2_keeps_68 : decode cX2_keeps 68 = .ok (.iload_n 3, 1) := by decide +kernel
theorem dX2_keeps_69 : decode cX2_keeps 69 = .ok (.bipush 17, 2) := by decide +kernel
theorem dX2_keeps_71 : decode cX2_keeps 71 = .ok (.if_icmp .lt 13, 3) := by decide +kernel
theorem dX2_keeps_74 : decode cX2_keeps 74 = .ok (.iload_n 3, 1) := by decide +kernel
theorem dX2_keeps_75 : decode cX2_keeps 75 = .ok (.bipush 20, 2) := by decide +kernel
theorem dX2_keeps_77 : decode cX2_keeps 77 = .ok (.if_icmp .gt 7, 3) := by decide +kernel
theorem dX2_keeps_80 : decode cX2_keeps 80 = .ok (.iconst 1, 1) := by decide +kernel
theorem dX2_keeps_81 : decode cX2_keeps 81 = .ok (.goto 4, 3) := by decide +kernel
theorem dX2_keeps_84 : decode cX2_keeps 84 = .ok (.iconst 0, 1) := by decide +kernel
theorem dX2_keeps_85 : decode cX2_keeps 85 = .ok (.istore 4, 2) := by decide +kernel
theorem dX2_keeps_87 : decode cX2_keeps 87 = .ok (.iload 4, 2) := by decide +kernel
theorem dX2_keeps_89 : decode cX2_keeps 89 = .ok (.ifCond .eq 14, 3) := by decide +kernel
theorem dX2_keeps_92 : decode cX2_keeps 92 = .ok (.aload_n 0, 1) := by decide +kernel
theorem dX2_keeps_93 : decode cX2_keeps 93 = .ok (.iload_n 3, 1) := by decide +kernel
theorem dX2_keeps_94 : decode cX2_keeps 94 = .ok (.invokevirtual 54, 3) := by decide +kernel
theorem dX2_keeps_97 : decode cX2_keeps 97 = .ok (.ifCond .eq 14, 3) := by decide +kernel
theorem dX2_keeps_100 : decode cX2_keeps 100 = .ok (.goto 13, 3) := by decide +kernel
theorem dX2_keeps_103 : decode cX2_keeps 103 = .ok (.aload_n 0, 1) := by decide +kernel
theorem dX2_keeps_104 : decode cX2_keeps 104 = .ok (.iload_n 3, 1) := by decide +kernel
theorem dX2_keeps_105 : decode cX2_keeps 105 = .ok (.invokevirtual 58, 3) := by decide +kernel
theorem dX2_keeps_108 : decode cX2_keeps 108 = .ok (.ifCond .ne 5, 3) := by decide +kernel
theorem dX2_keeps_111 : decode cX2_keeps 111 = .ok (.iconst 0, 1) := by decide +kernel
theorem dX2_keeps_112 : decode cX2_keeps 112 = .ok (.ireturn, 1) := by decide +kernel
theorem dX2_keeps_113 : decode cX2_keeps 113 = .ok (.iinc 2 1, 3) := by decide +kernel
theorem dX2_keeps_116 : decode cX2_keeps 116 = .ok (.goto (-81), 3) := by decide +kernel
theorem dX2_keeps_119 : decode cX2_keeps 119 = .ok (.iconst 1, 1) := by decide +kernel
theorem dX2_keeps_120 : decode cX2_keeps 120 = .ok (.ireturn, 1) := by decide +kernel
theorem dX2_keepsTell_0 : decode cX2_keepsTell 0 = .ok (.iload_n 1, 1) := by decide +kernel
theorem dX2_keepsTell_1 : decode cX2_keepsTell 1 = .ok (.tableswitch 368 13 22 #[55, 108, 185, 254, 368, 368, 368, 368, 338, 338], 55) := by decide +kernel
theorem dX2_keepsTell_56 : decode cX2_keepsTell 56 = .ok (.aload_n 0, 1) := by decide +kernel
theorem dX2_keepsTell_57 : decode cX2_keepsTell 57 = .ok (.dup, 1) := by decide +kernel
theorem dX2_keepsTell_58 : decode cX2_keepsTell 58 = .ok (.getfield 15, 3) := by decide +kernel
theorem dX2_keepsTell_61 : decode cX2_keepsTell 61 = .ok (.iconst 1, 1) := by decide +kernel
theorem dX2_keepsTell_62 : decode cX2_keepsTell 62 = .ok (.iadd, 1) := by decide +kernel
theorem dX2_keepsTell_63 : decode cX2_keepsTell 63 = .ok (.putfield 15, 3) := by decide +kernel
theorem dX2_keepsTell_66 : decode cX2_keepsTell 66 = .ok (.aload_n 0, 1) := by decide +kernel
theorem dX2_keepsTell_67 : decode cX2_keepsTell 67 = .ok (.aload_n 0, 1) := by decide +kernel
theorem dX2_keepsTell_68 : decode cX2_keepsTell 68 = .ok (.getfield 15, 3) := by decide +kernel
theorem dX2_keepsTell_71 : decode cX2_keepsTell 71 = .ok (.bipush 6, 2) := by decide +kernel
theorem dX2_keepsTell_73 : decode cX2_keepsTell 73 = .ok (.invokevirtual 61, 3) := by decide +kernel
theorem dX2_keepsTell_76 : decode cX2_keepsTell 76 = .ok (.ifCond .eq 31, 3) := by decide +kernel
theorem dX2_keepsTell_79 : decode cX2_keepsTell 79 = .ok (.aload_n 0, 1) := by decide +kernel
theorem dX2_keepsTell_80 : decode cX2_keepsTell 80 = .ok (.iload_n 1, 1) := by decide +kernel
theorem dX2_keepsTell_81 : decode cX2_keepsTell 81 = .ok (.invokevirtual 65, 3) := by decide +kernel
theorem dX2_keepsTell_84 : decode cX2_keepsTell 84 = .ok (.ifCond .eq 23, 3) := by decide +kernel
theorem dX2_keepsTell_87 : decode cX2_keepsTell 87 = .ok (.aload_n 0, 1) := by decide +kernel
theorem dX2_keepsTell_88 : decode cX2_keepsTell 88 = .ok (.iconst 2, 1) := by decide +kernel
theorem dX2_keepsTell_89 : decode cX2_keepsTell 89 = .ok (.invokevirtual 65, 3) := by decide +kernel
theorem dX2_keepsTell_92 : decode cX2_keepsTell 92 = .ok (.ifCond .eq 15, 3) := by decide +kernel
theorem dX2_keepsTell_95 : decode cX2_keepsTell 95 = .ok (.aload_n 0, 1) := by decide +kernel
theorem dX2_keepsTell_96 : decode cX2_keepsTell 96 = .ok (.iconst 4, 1) := by decide +kernel
theorem dX2_keepsTell_97 : decode cX2_keepsTell 97 = .ok (.invokevirtual 65, 3) := by decide +kernel
theorem dX2_keepsTell_100 : decode cX2_keepsTell 100 = .ok (.ifCond .eq 7, 3) := by decide +kernel
theorem dX2_keepsTell_103 : decode cX2_keepsTell 103 = .ok (.iconst 1, 1) := by decide +kernel
theorem dX2_keepsTell_104 : decode cX2_keepsTell 104 = .ok (.goto 4, 3) := by decide +kernel
theorem dX2_keepsTell_107 : decode cX2_keepsTell 107 = .ok (.iconst 0, 1) := by decide +kernel
theorem dX2_keepsTell_108 : decode cX2_keepsTell 108 = .ok (.ireturn, 1) := by decide +kernel
theorem dX2_keepsTell_109 : decode cX2_keepsTell 109 = .ok (.aload_n 0, 1) := by decide +kernel
theorem dX2_keepsTell_110 : decode cX2_keepsTell 110 = .ok (.dup, 1) := by decide +kernel
theorem dX2_keepsTell_111 : decode cX2_keepsTell 111 = .ok (.getfield 18, 3) := by decide +kernel
theorem dX2_keepsTell_114 : decode cX2_keepsTell 114 = .ok (.iconst 1, 1) := by decide +kernel
theorem dX2_keepsTell_115 : decode cX2_keepsTell 115 = .ok (.iadd, 1) := by decide +kernel
theorem dX2_keepsTell_116 : decode cX2_keepsTell 116 = .ok (.putfield 18, 3) := by decide +kernel
theorem dX2_keepsTell_119 : decode cX2_keepsTell 119 = .ok (.aload_n 0, 1) := by decide +kernel
theorem dX2_keepsTell_120 : decode cX2_keepsTell 120 = .ok (.aload_n 0, 1) := by decide +kernel
theorem dX2_keepsTell_121 : decode cX2_keepsTell 121 = .ok (.getfield 18, 3) := by decide +kernel
theorem dX2_keepsTell_124 : decode cX2_keepsTell 124 = .ok (.bipush 7, 2) := by decide +kernel
theorem dX2_keepsTell_126 : decode cX2_keepsTell 126 = .ok (.invokevirtual 61, 3) := by decide +kernel
theorem dX2_keepsTell_129 : decode cX2_keepsTell 129 = .ok (.ifCond .eq 55, 3) := by decide +kernel
theorem dX2_keepsTell_132 : decode cX2_keepsTell 132 = .ok (.aload_n 0, 1) := by decide +kernel
theorem dX2_keepsTell_133 : decode cX2_keepsTell 133 = .ok (.iload_n 1, 1) := by decide +kernel
theorem dX2_keepsTell_134 : decode cX2_keepsTell 134 = .ok (.invokevirtual 65, 3) := by decide +kernel
theorem dX2_keepsTell_137 : decode cX2_keepsTell 137 = .ok (.ifCond .eq 47, 3) := by decide +kernel
theorem dX2_keepsTell_140 : decode cX2_keepsTell 140 = .ok (.aload_n 0, 1) := by decide +kernel
theorem dX2_keepsTell_141 : decode cX2_keepsTell 141 = .ok (.iconst 2, 1) := by decide +kernel
theorem dX2_keepsTell_142 : decode cX2_keepsTell 142 = .ok (.invokevirtual 65, 3) := by decide +kernel
theorem dX2_keepsTell_145 : decode cX2_keepsTell 145 = .ok (.ifCond .eq 39, 3) := by decide +kernel
theorem dX2_keepsTell_148 : decode cX2_keepsTell 148 = .ok (.aload_n 0, 1) := by decide +kernel
theorem dX2_keepsTell_149 : decode cX2_keepsTell 149 = .ok (.iconst 3, 1) := by decide +kernel
theorem dX2_keepsTell_150 : decode cX2_keepsTell 150 = .ok (.invokevirtual 65, 3) := by decide +kernel
theorem dX2_keepsTell_153 : decode cX2_keepsTell 153 = .ok (.ifCond .eq 31, 3) := by decide +kernel
theorem dX2_keepsTell_156 : decode cX2_keepsTell 156 = .ok (.aload_n 0, 1) := by decide +kernel
theorem dX2_keepsTell_157 : decode cX2_keepsTell 157 = .ok (.iconst 3, 1) := by decide +kernel
theorem dX2_keepsTell_158 : decode cX2_keepsTell 158 = .ok (.invokevirtual 65, 3) := by decide +kernel
theorem dX2_keepsTell_161 : decode cX2_keepsTell 161 = .ok (.ifCond .eq 23, 3) := by decide +kernel
theorem dX2_keepsTell_164 : decode cX2_keepsTell 164 = .ok (.aload_n 0, 1) := by decide +kernel
theorem dX2_keepsTell_165 : decode cX2_keepsTell 165 = .ok (.iconst 2, 1) := by decide +kernel
theorem dX2_keepsTell_166 : decode cX2_keepsTell 166 = .ok (.invokevirtual 65, 3) := by decide +kernel
theorem dX2_keepsTell_169 : decode cX2_keepsTell 169 = .ok (.ifCond .eq 15, 3) := by decide +kernel
theorem dX2_keepsTell_172 : decode cX2_keepsTell 172 = .ok (.aload_n 0, 1) := by decide +kernel
theorem dX2_keepsTell_173 : decode cX2_keepsTell 173 = .ok (.iconst 4, 1) := by decide +kernel
theorem dX2_keepsTell_174 : decode cX2_keepsTell 174 = .ok (.invokevirtual 65, 3) := by decide +kernel
theorem dX2_keepsTell_177 : decode cX2_keepsTell 177 = .ok (.ifCond .eq 7, 3) := by decide +kernel
theorem dX2_keepsTell_180 : decode cX2_keepsTell 180 = .ok (.iconst 1, 1) := by decide +kernel
theorem dX2_keepsTell_181 : decode cX2_keepsTell 181 = .ok (.goto 4, 3) := by decide +kernel
theorem dX2_keepsTell_184 : decode cX2_keepsTell 184 = .ok (.iconst 0, 1) := by decide +kernel
theorem dX2_keepsTell_185 : decode cX2_keepsTell 185 = .ok (.ireturn, 1) := by decide +kernel
theorem dX2_keepsTell_186 : decode cX2_keepsTell 186 = .ok (.aload_n 0, 1) := by decide +kernel
theorem dX2_keepsTell_187 : decode cX2_keepsTell 187 = .ok (.dup, 1) := by decide +kernel
theorem dX2_keepsTell_188 : decode cX2_keepsTell 188 = .ok (.getfield 21, 3) := by decide +kernel
theorem dX2_keepsTell_191 : decode cX2_keepsTell 191 = .ok (.iconst 1, 1) := by decide +kernel
theorem dX2_keepsTell_192 : decode cX2_keepsTell 192 = .ok (.iadd, 1) := by decide +kernel
theorem dX2_keepsTell_193 : decode cX2_keepsTell 193 = .ok (.putfield 21, 3) := by decide +kernel
theorem dX2_keepsTell_196 : decode cX2_keepsTell 196 = .ok (.aload_n 0, 1) := by decide +kernel
theorem dX2_keepsTell_197 : decode cX2_keepsTell 197 = .ok (.aload_n 0, 1) := by decide +kernel
theorem dX2_keepsTell_198 : decode cX2_keepsTell 198 = .ok (.getfield 21, 3) := by decide +kernel
theorem dX2_keepsTell_201 : decode cX2_keepsTell 201 = .ok (.bipush 7, 2) := by decide +kernel
theorem dX2_keepsTell_203 : decode cX2_keepsTell 203 = .ok (.invokevirtual 61, 3) := by decide +kernel
theorem dX2_keepsTell_206 : decode cX2_keepsTell 206 = .ok (.ifCond .eq 47, 3) := by decide +kernel
theorem dX2_keepsTell_209 : decode cX2_keepsTell 209 = .ok (.aload_n 0, 1) := by decide +kernel
theorem dX2_keepsTell_210 : decode cX2_keepsTell 210 = .ok (.iload_n 1, 1) := by decide +kernel
theorem dX2_keepsTell_211 : decode cX2_keepsTell 211 = .ok (.invokevirtual 65, 3) := by decide +kernel
theorem dX2_keepsTell_214 : decode cX2_keepsTell 214 = .ok (.ifCond .eq 39, 3) := by decide +kernel
theorem dX2_keepsTell_217 : decode cX2_keepsTell 217 = .ok (.aload_n 0, 1) := by decide +kernel
theorem dX2_keepsTell_218 : decode cX2_keepsTell 218 = .ok (.iconst 2, 1) := by decide +kernel
theorem dX2_keepsTell_219 : decode cX2_keepsTell 219 = .ok (.invokevirtual 65, 3) := by decide +kernel
theorem dX2_keepsTell_222 : decode cX2_keepsTell 222 = .ok (.ifCond .eq 31, 3) := by decide +kernel
theorem dX2_keepsTell_225 : decode cX2_keepsTell 225 = .ok (.aload_n 0, 1) := by decide +kernel
theorem dX2_keepsTell_226 : decode cX2_keepsTell 226 = .ok (.iconst 3, 1) := by decide +kernel
theorem dX2_keepsTell_227 : decode cX2_keepsTell 227 = .ok (.invokevirtual 65, 3) := by decide +kernel
theorem dX2_keepsTell_230 : decode cX2_keepsTell 230 = .ok (.ifCond .eq 23, 3) := by decide +kernel
theorem dX2_keepsTell_233 : decode cX2_keepsTell 233 = .ok (.aload_n 0, 1) := by decide +kernel
theorem dX2_keepsTell_234 : decode cX2_keepsTell 234 = .ok (.iconst 3, 1) := by decide +kernel
theorem dX2_keepsTell_235 : decode cX2_keepsTell 235 = .ok (.invokevirtual 65, 3) := by decide +kernel
theorem dX2_keepsTell_238 : decode cX2_keepsTell 238 = .ok (.ifCond .eq 15, 3) := by decide +kernel
theorem dX2_keepsTell_241 : decode cX2_keepsTell 241 = .ok (.aload_n 0, 1) := by decide +kernel
theorem dX2_keepsTell_242 : decode cX2_keepsTell 242 = .ok (.iconst 4, 1) := by decide +kernel
theorem dX2_keepsTell_243 : decode cX2_keepsTell 243 = .ok (.invokevirtual 65, 3) := by decide +kernel
theorem dX2_keepsTell_246 : decode cX2_keepsTell 246 = .ok (.ifCond .eq 7, 3) := by decide +kernel
theorem dX2_keepsTell_249 : decode cX2_keepsTell 249 = .ok (.iconst 1, 1) := by decide +kernel
theorem dX2_keepsTell_250 : decode cX2_keepsTell 250 = .ok (.goto 4, 3) := by decide +kernel
theorem dX2_keepsTell_253 : decode cX2_keepsTell 253 = .ok (.iconst 0, 1) := by decide +kernel
theorem dX2_keepsTell_254 : decode cX2_keepsTell 254 = .ok (.ireturn, 1) := by decide +kernel
theorem dX2_keepsTell_255 : decode cX2_keepsTell 255 = .ok (.aload_n 0, 1) := by decide +kernel
theorem dX2_keepsTell_256 : decode cX2_keepsTell 256 = .ok (.dup, 1) := by decide +kernel
theorem dX2_keepsTell_257 : decode cX2_keepsTell 257 = .ok (.getfield 24, 3) := by decide +kernel
theorem dX2_keepsTell_260 : decode cX2_keepsTell 260 = .ok (.iconst 1, 1) := by decide +kernel
theorem dX2_keepsTell_261 : decode cX2_keepsTell 261 = .ok (.iadd, 1) := by decide +kernel
theorem dX2_keepsTell_262 : decode cX2_keepsTell 262 = .ok (.putfield 24, 3) := by decide +kernel
theorem dX2_keepsTell_265 : decode cX2_keepsTell 265 = .ok (.aload_n 0, 1) := by decide +kernel
theorem dX2_keepsTell_266 : decode cX2_keepsTell 266 = .ok (.aload_n 0, 1) := by decide +kernel
theorem dX2_keepsTell_267 : decode cX2_keepsTell 267 = .ok (.getfield 24, 3) := by decide +kernel
theorem dX2_keepsTell_270 : decode cX2_keepsTell 270 = .ok (.bipush 12, 2) := by decide +kernel
theorem dX2_keepsTell_272 : decode cX2_keepsTell 272 = .ok (.invokevirtual 61, 3) := by decide +kernel
theorem dX2_keepsTell_275 : decode cX2_keepsTell 275 = .ok (.ifCond .eq 62, 3) := by decide +kernel
theorem dX2_keepsTell_278 : decode cX2_keepsTell 278 = .ok (.aload_n 0, 1) := by decide +kernel
theorem dX2_keepsTell_279 : decode cX2_keepsTell 279 = .ok (.iload_n 1, 1) := by decide +kernel
theorem dX2_keepsTell_280 : decode cX2_keepsTell 280 = .ok (.invokevirtual 65, 3) := by decide +kernel
theorem dX2_keepsTell_283 : decode cX2_keepsTell 283 = .ok (.ifCond .eq 54, 3) := by decide +kernel
theorem dX2_keepsTell_286 : decode cX2_keepsTell 286 = .ok (.aload_n 0, 1) := by decide +kernel
theorem dX2_keepsTell_287 : decode cX2_keepsTell 287 = .ok (.iconst 2, 1) := by decide +kernel
theorem dX2_keepsTell_288 : decode cX2_keepsTell 288 = .ok (.invokevirtual 65, 3) := by decide +kernel
theorem dX2_keepsTell_291 : decode cX2_keepsTell 291 = .ok (.ifCond .eq 46, 3) := by decide +kernel
theorem dX2_keepsTell_294 : decode cX2_keepsTell 294 = .ok (.aload_n 0, 1) := by decide +kernel
theorem dX2_keepsTell_295 : decode cX2_keepsTell 295 = .ok (.iconst 2, 1) := by decide +kernel
theorem dX2_keepsTell_296 : decode cX2_keepsTell 296 = .ok (.invokevirtual 65, 3) := by decide +kernel
theorem dX2_keepsTell_299 : decode cX2_keepsTell 299 = .ok (.ifCond .eq 38, 3) := by decide +kernel
theorem dX2_keepsTell_302 : decode cX2_keepsTell 302 = .ok (.aload_n 0, 1) := by decide +kernel
theorem dX2_keepsTell_303 : decode cX2_keepsTell 303 = .ok (.iconst 2, 1) := by decide +kernel
theorem dX2_keepsTell_304 : decode cX2_keepsTell 304 = .ok (.invokevirtual 65, 3) := by decide +kernel
theorem dX2_keepsTell_307 : decode cX2_keepsTell 307 = .ok (.ifCond .eq 30, 3) := by decide +kernel
theorem dX2_keepsTell_310 : decode cX2_keepsTell 310 = .ok (.aload_n 0, 1) := by decide +kernel
theorem dX2_keepsTell_311 : decode cX2_keepsTell 311 = .ok (.iconst 3, 1) := by decide +kernel
theorem dX2_keepsTell_312 : decode cX2_keepsTell 312 = .ok (.invokevirtual 65, 3) := by decide +kernel
theorem dX2_keepsTell_315 : decode cX2_keepsTell 315 = .ok (.ifCond .eq 22, 3) := by decide +kernel
theorem dX2_keepsTell_318 : decode cX2_keepsTell 318 = .ok (.aload_n 0, 1) := by decide +kernel
theorem dX2_keepsTell_319 : decode cX2_keepsTell 319 = .ok (.invokevirtual 68, 3) := by decide +kernel
theorem dX2_keepsTell_322 : decode cX2_keepsTell 322 = .ok (.ifCond .eq 15, 3) := by decide +kernel
theorem dX2_keepsTell_325 : decode cX2_keepsTell 325 = .ok (.aload_n 0, 1) := by decide +kernel
theorem dX2_keepsTell_326 : decode cX2_keepsTell 326 = .ok (.iconst 4, 1) := by decide +kernel
theorem dX2_keepsTell_327 : decode cX2_keepsTell 327 = .ok (.invokevirtual 65, 3) := by decide +kernel
theorem dX2_keepsTell_330 : decode cX2_keepsTell 330 = .ok (.ifCond .eq 7, 3) := by decide +kernel
theorem dX2_keepsTell_333 : decode cX2_keepsTell 333 = .ok (.iconst 1, 1) := by decide +kernel
theorem dX2_keepsTell_334 : decode cX2_keepsTell 334 = .ok (.goto 4, 3) := by decide +kernel
theorem dX2_keepsTell_337 : decode cX2_keepsTell 337 = .ok (.iconst 0, 1) := by decide +kernel
theorem dX2_keepsTell_338 : decode cX2_keepsTell 338 = .ok (.ireturn, 1) := by decide +kernel
theorem dX2_keepsTell_339 : decode cX2_keepsTell 339 = .ok (.aload_n 0, 1) := by decide +kernel
theorem dX2_keepsTell_340 : decode cX2_keepsTell 340 = .ok (.iload_n 1, 1) := by decide +kernel
theorem dX2_keepsTell_341 : decode cX2_keepsTell 341 = .ok (.invokevirtual 65, 3) := by decide +kernel
theorem dX2_keepsTell_344 : decode cX2_keepsTell 344 = .ok (.ifCond .eq 23, 3) := by decide +kernel
theorem dX2_keepsTell_347 : decode cX2_keepsTell 347 = .ok (.aload_n 0, 1) := by decide +kernel
theorem dX2_keepsTell_348 : decode cX2_keepsTell 348 = .ok (.iconst 3, 1) := by decide +kernel
theorem dX2_keepsTell_349 : decode cX2_keepsTell 349 = .ok (.invokevirtual 65, 3) := by decide +kernel
theorem dX2_keepsTell_352 : decode cX2_keepsTell 352 = .ok (.ifCond .eq 15, 3) := by decide +kernel
theorem dX2_keepsTell_355 : decode cX2_keepsTell 355 = .ok (.aload_n 0, 1) := by decide +kernel
theorem dX2_keepsTell_356 : decode cX2_keepsTell 356 = .ok (.iconst 4, 1) := by decide +kernel
theorem dX2_keepsTell_357 : decode cX2_keepsTell 357 = .ok (.invokevirtual 65, 3) := by decide +kernel
theorem dX2_keepsTell_360 : decode cX2_keepsTell 360 = .ok (.ifCond .eq 7, 3) := by decide +kernel
theorem dX2_keepsTell_363 : decode cX2_keepsTell 363 = .ok (.iconst 1, 1) := by decide +kernel
theorem dX2_keepsTell_364 : decode cX2_keepsTell 364 = .ok (.goto 4, 3) := by decide +kernel
theorem dX2_keepsTell_367 : decode cX2_keepsTell 367 = .ok (.iconst 0, 1) := by decide +kernel
theorem dX2_keepsTell_368 : decode cX2_keepsTell 368 = .ok (.ireturn, 1) := by decide +kernel
theorem dX2_keepsTell_369 : decode cX2_keepsTell 369 = .ok (.aload_n 0, 1) := by decide +kernel
theorem dX2_keepsTell_370 : decode cX2_keepsTell 370 = .ok (.getfield 37, 3) := by decide +kernel
theorem dX2_keepsTell_373 : decode cX2_keepsTell 373 = .ok (.iconst 1, 1) := by decide +kernel
theorem dX2_keepsTell_374 : decode cX2_keepsTell 374 = .ok (.aload_n 0, 1) := by decide +kernel
theorem dX2_keepsTell_375 : decode cX2_keepsTell 375 = .ok (.getfield 9, 3) := by decide +kernel
theorem dX2_keepsTell_378 : decode cX2_keepsTell 378 = .ok (.invokevirtual 72, 3) := by decide +kernel
theorem dX2_keepsTell_381 : decode cX2_keepsTell 381 = .ok (.ireturn, 1) := by decide +kernel
theorem dX2_hasRoom_0 : decode cX2_hasRoom 0 = .ok (.iload_n 1, 1) := by decide +kernel
theorem dX2_hasRoom_1 : decode cX2_hasRoom 1 = .ok (.iload_n 2, 1) := by decide +kernel
theorem dX2_hasRoom_2 : decode cX2_hasRoom 2 = .ok (.if_icmp .le 18, 3) := by decide +kernel
theorem dX2_hasRoom_5 : decode cX2_hasRoom 5 = .ok (.aload_n 0, 1) := by decide +kernel
theorem dX2_hasRoom_6 : decode cX2_hasRoom 6 = .ok (.getfield 37, 3) := by decide +kernel
theorem dX2_hasRoom_9 : decode cX2_hasRoom 9 = .ok (.iconst 2, 1) := by decide +kernel
theorem dX2_hasRoom_10 : decode cX2_hasRoom 10 = .ok (.aload_n 0, 1) := by decide +kernel
theorem dX2_hasRoom_11 : decode cX2_hasRoom 11 = .ok (.getfield 9, 3) := by decide +kernel
theorem dX2_hasRoom_14 : decode cX2_hasRoom 14 = .ok (.invokevirtual 72, 3) := by decide +kernel
theorem dX2_hasRoom_17 : decode cX2_hasRoom 17 = .ok (.ifCond .eq 7, 3) := by decide +kernel
theorem dX2_hasRoom_20 : decode cX2_hasRoom 20 = .ok (.iconst 1, 1) := by decide +kernel
theorem dX2_hasRoom_21 : decode cX2_hasRoom 21 = .ok (.goto 4, 3) := by decide +kernel
theorem dX2_hasRoom_24 : decode cX2_hasRoom 24 = .ok (.iconst 0, 1) := by decide +kernel
theorem dX2_hasRoom_25 : decode cX2_hasRoom 25 = .ok (.ireturn, 1) := by decide +kernel
theorem dX2_take_0 : decode cX2_take 0 = .ok (.aload_n 0, 1) := by decide +kernel
theorem dX2_take_1 : decode cX2_take 1 = .ok (.getfield 37, 3) := by decide +kernel
theorem dX2_take_4 : decode cX2_take 4 = .ok (.aload_n 0, 1) := by decide +kernel
theorem dX2_take_5 : decode cX2_take 5 = .ok (.getfield 9, 3) := by decide +kernel
theorem dX2_take_8 : decode cX2_take 8 = .ok (.invokevirtual 48, 3) := by decide +kernel
theorem dX2_take_11 : decode cX2_take 11 = .ok (.iload_n 1, 1) := by decide +kernel
theorem dX2_take_12 : decode cX2_take 12 = .ok (.if_icmp .eq 16, 3) := by decide +kernel
theorem dX2_take_15 : decode cX2_take 15 = .ok (.aload_n 0, 1) := by decide +kernel
theorem dX2_take_16 : decode cX2_take 16 = .ok (.getfield 37, 3) := by decide +kernel
theorem dX2_take_19 : decode cX2_take 19 = .ok (.iconst 1, 1) := by decide +kernel
theorem dX2_take_20 : decode cX2_take 20 = .ok (.aload_n 0, 1) := by decide +kernel
theorem dX2_take_21 : decode cX2_take 21 = .ok (.getfield 9, 3) := by decide +kernel
theorem dX2_take_24 : decode cX2_take 24 = .ok (.invokevirtual 72, 3) := by decide +kernel
theorem dX2_take_27 : decode cX2_take 27 = .ok (.ireturn, 1) := by decide +kernel
theorem dX2_take_28 : decode cX2_take 28 = .ok (.aload_n 0, 1) := by decide +kernel
theorem dX2_take_29 : decode cX2_take 29 = .ok (.getfield 9, 3) := by decide +kernel
theorem dX2_take_32 : decode cX2_take 32 = .ok (.sipush 400, 3) := by decide +kernel
theorem dX2_take_35 : decode cX2_take 35 = .ok (.if_icmp .lt 16, 3) := by decide +kernel
theorem dX2_take_38 : decode cX2_take 38 = .ok (.aload_n 0, 1) := by decide +kernel
theorem dX2_take_39 : decode cX2_take 39 = .ok (.getfield 37, 3) := by decide +kernel
theorem dX2_take_42 : decode cX2_take 42 = .ok (.iconst 2, 1) := by decide +kernel
theorem dX2_take_43 : decode cX2_take 43 = .ok (.aload_n 0, 1) := by decide +kernel
theorem dX2_take_44 : decode cX2_take 44 = .ok (.getfield 9, 3) := by decide +kernel
theorem dX2_take_47 : decode cX2_take 47 = .ok (.invokevirtual 72, 3) := by decide +kernel
theorem dX2_take_50 : decode cX2_take 50 = .ok (.ireturn, 1) := by decide +kernel
theorem dX2_take_51 : decode cX2_take 51 = .ok (.aload_n 0, 1) := by decide +kernel
theorem dX2_take_52 : decode cX2_take 52 = .ok (.dup, 1) := by decide +kernel
theorem dX2_take_53 : decode cX2_take 53 = .ok (.getfield 9, 3) := by decide +kernel
theorem dX2_take_56 : decode cX2_take 56 = .ok (.iconst 1, 1) := by decide +kernel
theorem dX2_take_57 : decode cX2_take 57 = .ok (.iadd, 1) := by decide +kernel
theorem dX2_take_58 : decode cX2_take 58 = .ok (.putfield 9, 3) := by decide +kernel
theorem dX2_take_61 : decode cX2_take 61 = .ok (.iconst 1, 1) := by decide +kernel
theorem dX2_take_62 : decode cX2_take 62 = .ok (.ireturn, 1) := by decide +kernel
theorem dX2_takeNames_0 : decode cX2_takeNames 0 = .ok (.iconst 0, 1) := by decide +kernel
theorem dX2_takeNames_1 : decode cX2_takeNames 1 = .ok (.istore_n 1, 1) := by decide +kernel
theorem dX2_takeNames_2 : decode cX2_takeNames 2 = .ok (.iload_n 1, 1) := by decide +kernel
theorem dX2_takeNames_3 : decode cX2_takeNames 3 = .ok (.sipush 400, 3) := by decide +kernel
theorem dX2_takeNames_6 : decode cX2_takeNames 6 = .ok (.if_icmp .gt 34, 3) := by decide +kernel
theorem dX2_takeNames_9 : decode cX2_takeNames 9 = .ok (.aload_n 0, 1) := by decide +kernel
theorem dX2_takeNames_10 : decode cX2_takeNames 10 = .ok (.getfield 37, 3) := by decide +kernel
theorem dX2_takeNames_13 : decode cX2_takeNames 13 = .ok (.aload_n 0, 1) := by decide +kernel
theorem dX2_takeNames_14 : decode cX2_takeNames 14 = .ok (.getfield 9, 3) := by decide +kernel
theorem dX2_takeNames_17 : decode cX2_takeNames 17 = .ok (.invokevirtual 48, 3) := by decide +kernel
theorem dX2_takeNames_20 : decode cX2_takeNames 20 = .ok (.iconst 2, 1) := by decide +kernel
theorem dX2_takeNames_21 : decode cX2_takeNames 21 = .ok (.if_icmp .ne 19, 3) := by decide +kernel
theorem dX2_takeNames_24 : decode cX2_takeNames 24 = .ok (.aload_n 0, 1) := by decide +kernel
theorem dX2_takeNames_25 : decode cX2_takeNames 25 = .ok (.iconst 2, 1) := by decide +kernel
theorem dX2_takeNames_26 : decode cX2_takeNames 26 = .ok (.invokevirtual 65, 3) := by decide +kernel
theorem dX2_takeNames_29 : decode cX2_takeNames 29 = .ok (.ifCond .ne 5, 3) := by decide +kernel
theorem dX2_takeNames_32 : decode cX2_takeNames 32 = .ok (.iconst 0, 1) := by decide +kernel
theorem dX2_takeNames_33 : decode cX2_takeNames 33 = .ok (.ireturn, 1) := by decide +kernel
theorem dX2_takeNames_34 : decode cX2_takeNames 34 = .ok (.iinc 1 1, 3) := by decide +kernel
theorem dX2_takeNames_37 : decode cX2_takeNames 37 = .ok (.goto (-35), 3) := by decide +kernel
theorem dX2_takeNames_40 : decode cX2_takeNames 40 = .ok (.iconst 1, 1) := by decide +kernel
theorem dX2_takeNames_41 : decode cX2_takeNames 41 = .ok (.ireturn, 1) := by decide +kernel
theorem dX2_keepsLaw_0 : decode cX2_keepsLaw 0 = .ok (.aload_n 0, 1) := by decide +kernel
theorem dX2_keepsLaw_1 : decode cX2_keepsLaw 1 = .ok (.iload_n 1, 1) := by decide +kernel
theorem dX2_keepsLaw_2 : decode cX2_keepsLaw 2 = .ok (.invokevirtual 65, 3) := by decide +kernel
theorem dX2_keepsLaw_5 : decode cX2_keepsLaw 5 = .ok (.ifCond .eq 11, 3) := by decide +kernel
theorem dX2_keepsLaw_8 : decode cX2_keepsLaw 8 = .ok (.aload_n 0, 1) := by decide +kernel
theorem dX2_keepsLaw_9 : decode cX2_keepsLaw 9 = .ok (.iconst 5, 1) := by decide +kernel
theorem dX2_keepsLaw_10 : decode cX2_keepsLaw 10 = .ok (.invokevirtual 65, 3) := by decide +kernel
theorem dX2_keepsLaw_13 : decode cX2_keepsLaw 13 = .ok (.ifCond .ne 5, 3) := by decide +kernel
theorem dX2_keepsLaw_16 : decode cX2_keepsLaw 16 = .ok (.iconst 0, 1) := by decide +kernel
theorem dX2_keepsLaw_17 : decode cX2_keepsLaw 17 = .ok (.ireturn, 1) := by decide +kernel
theorem dX2_keepsLaw_18 : decode cX2_keepsLaw 18 = .ok (.aload_n 0, 1) := by decide +kernel
theorem dX2_keepsLaw_19 : decode cX2_keepsLaw 19 = .ok (.getfield 47, 3) := by decide +kernel
theorem dX2_keepsLaw_22 : decode cX2_keepsLaw 22 = .ok (.iload_n 1, 1) := by decide +kernel
theorem dX2_keepsLaw_23 : decode cX2_keepsLaw 23 = .ok (.bipush 17, 2) := by decide +kernel
theorem dX2_keepsLaw_25 : decode cX2_keepsLaw 25 = .ok (.isub, 1) := by decide +kernel
theorem dX2_keepsLaw_26 : decode cX2_keepsLaw 26 = .ok (.invokevirtual 75, 3) := by decide +kernel
theorem dX2_keepsLaw_29 : decode cX2_keepsLaw 29 = .ok (.iconst 0, 1) := by decide +kernel
theorem dX2_keepsLaw_30 : decode cX2_keepsLaw 30 = .ok (.istore_n 2, 1) := by decide +kernel
theorem dX2_keepsLaw_31 : decode cX2_keepsLaw 31 = .ok (.iload_n 2, 1) := by decide +kernel
theorem dX2_keepsLaw_32 : decode cX2_keepsLaw 32 = .ok (.iconst 4, 1) := by decide +kernel
theorem dX2_keepsLaw_33 : decode cX2_keepsLaw 33 = .ok (.if_icmp .gt 132, 3) := by decide +kernel
theorem dX2_keepsLaw_36 : decode cX2_keepsLaw 36 = .ok (.aload_n 0, 1) := by decide +kernel
theorem dX2_keepsLaw_37 : decode cX2_keepsLaw 37 = .ok (.getfield 37, 3) := by decide +kernel
theorem dX2_keepsLaw_40 : decode cX2_keepsLaw 40 = .ok (.aload_n 0, 1) := by decide +kernel
theorem dX2_keepsLaw_41 : decode cX2_keepsLaw 41 = .ok (.getfield 9, 3) := by decide +kernel
theorem dX2_keepsLaw_44 : decode cX2_keepsLaw 44 = .ok (.invokevirtual 48, 3) := by decide +kernel
theorem dX2_keepsLaw_47 : decode cX2_keepsLaw 47 = .ok (.bipush 23, 2) := by decide +kernel
theorem dX2_keepsLaw_49 : decode cX2_keepsLaw 49 = .ok (.if_icmp .ne 116, 3) := by decide +kernel
theorem dX2_keepsLaw_52 : decode cX2_keepsLaw 52 = .ok (.iload_n 2, 1) := by decide +kernel
theorem dX2_keepsLaw_53 : decode cX2_keepsLaw 53 = .ok (.iconst 4, 1) := by decide +kernel
theorem dX2_keepsLaw_54 : decode cX2_keepsLaw 54 = .ok (.if_icmp .ne 16, 3) := by decide +kernel
theorem dX2_keepsLaw_57 : decode cX2_keepsLaw 57 = .ok (.aload_n 0, 1) := by decide +kernel
theorem dX2_keepsLaw_58 : decode cX2_keepsLaw 58 = .ok (.getfield 37, 3) := by decide +kernel
theorem dX2_keepsLaw_61 : decode cX2_keepsLaw 61 = .ok (.iconst 2, 1) := by decide +kernel
theorem dX2_keepsLaw_62 : decode cX2_keepsLaw 62 = .ok (.aload_n 0, 1) := by decide +kernel
theorem dX2_keepsLaw_63 : decode cX2_keepsLaw 63 = .ok (.getfield 9, 3) := by decide +kernel
theorem dX2_keepsLaw_66 : decode cX2_keepsLaw 66 = .ok (.invokevirtual 72, 3) := by decide +kernel
theorem dX2_keepsLaw_69 : decode cX2_keepsLaw 69 = .ok (.ireturn, 1) := by decide +kernel
theorem dX2_keepsLaw_70 : decode cX2_keepsLaw 70 = .ok (.aload_n 0, 1) := by decide +kernel
theorem dX2_keepsLaw_71 : decode cX2_keepsLaw 71 = .ok (.bipush 23, 2) := by decide +kernel
theorem dX2_keepsLaw_73 : decode cX2_keepsLaw 73 = .ok (.invokevirtual 65, 3) := by decide +kernel
theorem dX2_keepsLaw_76 : decode cX2_keepsLaw 76 = .ok (.ifCond .eq 35, 3) := by decide +kernel
theorem dX2_keepsLaw_79 : decode cX2_keepsLaw 79 = .ok (.aload_n 0, 1) := by decide +kernel
theorem dX2_keepsLaw_80 : decode cX2_keepsLaw 80 = .ok (.invokevirtual 81, 3) := by decide +kernel
theorem dX2_keepsLaw_83 : decode cX2_keepsLaw 83 = .ok (.ifCond .eq 28, 3) := by decide +kernel
theorem dX2_keepsLaw_86 : decode cX2_keepsLaw 86 = .ok (.aload_n 0, 1) := by decide +kernel
theorem dX2_keepsLaw_87 : decode cX2_keepsLaw 87 = .ok (.bipush 10, 2) := by decide +kernel
theorem dX2_keepsLaw_89 : decode cX2_keepsLaw 89 = .ok (.invokevirtual 65, 3) := by decide +kernel
theorem dX2_keepsLaw_92 : decode cX2_keepsLaw 92 = .ok (.ifCond .eq 19, 3) := by decide +kernel
theorem dX2_keepsLaw_95 : decode cX2_keepsLaw 95 = .ok (.aload_n 0, 1) := by decide +kernel
theorem dX2_keepsLaw_96 : decode cX2_keepsLaw 96 = .ok (.invokevirtual 81, 3) := by decide +kernel
theorem dX2_keepsLaw_99 : decode cX2_keepsLaw 99 = .ok (.ifCond .eq 12, 3) := by decide +kernel
theorem dX2_keepsLaw_102 : decode cX2_keepsLaw 102 = .ok (.aload_n 0, 1) := by decide +kernel
theorem dX2_keepsLaw_103 : decode cX2_keepsLaw 103 = .ok (.bipush 24, 2) := by decide +kernel
theorem dX2_keepsLaw_105 : decode cX2_keepsLaw 105 = .ok (.invokevirtual 65, 3) := by decide +kernel
theorem dX2_keepsLaw_108 : decode cX2_keepsLaw 108 = .ok (.ifCond .ne 5, 3) := by decide +kernel
theorem dX2_keepsLaw_111 : decode cX2_keepsLaw 111 = .ok (.iconst 0, 1) := by decide +kernel
theorem dX2_keepsLaw_112 : decode cX2_keepsLaw 112 = .ok (.ireturn, 1) := by decide +kernel
theorem dX2_keepsLaw_113 : decode cX2_keepsLaw 113 = .ok (.aload_n 0, 1) := by decide +kernel
theorem dX2_keepsLaw_114 : decode cX2_keepsLaw 114 = .ok (.getfield 47, 3) := by decide +kernel
theorem dX2_keepsLaw_117 : decode cX2_keepsLaw 117 = .ok (.iconst 2, 1) := by decide +kernel
theorem dX2_keepsLaw_118 : decode cX2_keepsLaw 118 = .ok (.iconst 0, 1) := by decide +kernel
theorem dX2_keepsLaw_119 : decode cX2_keepsLaw 119 = .ok (.invokevirtual 84, 3) := by decide +kernel
theorem dX2_keepsLaw_122 : decode cX2_keepsLaw 122 = .ok (.istore_n 3, 1) := by decide +kernel
theorem dX2_keepsLaw_123 : decode cX2_keepsLaw 123 = .ok (.aload_n 0, 1) := by decide +kernel
theorem dX2_keepsLaw_124 : decode cX2_keepsLaw 124 = .ok (.invokevirtual 81, 3) := by decide +kernel
theorem dX2_keepsLaw_127 : decode cX2_keepsLaw 127 = .ok (.ifCond .eq 12, 3) := by decide +kernel
theorem dX2_keepsLaw_130 : decode cX2_keepsLaw 130 = .ok (.aload_n 0, 1) := by decide +kernel
theorem dX2_keepsLaw_131 : decode cX2_keepsLaw 131 = .ok (.bipush 25, 2) := by decide +kernel
theorem dX2_keepsLaw_133 : decode cX2_keepsLaw 133 = .ok (.invokevirtual 65, 3) := by decide +kernel
theorem dX2_keepsLaw_136 : decode cX2_keepsLaw 136 = .ok (.ifCond .ne 5, 3) := by decide +kernel
theorem dX2_keepsLaw_139 : decode cX2_keepsLaw 139 = .ok (.iconst 0, 1) := by decide +kernel
theorem dX2_keepsLaw_140 : decode cX2_keepsLaw 140 = .ok (.ireturn, 1) := by decide +kernel
theorem dX2_keepsLaw_141 : decode cX2_keepsLaw 141 = .ok (.aload_n 0, 1) := by decide +kernel
theorem dX2_keepsLaw_142 : decode cX2_keepsLaw 142 = .ok (.getfield 47, 3) := by decide +kernel
theorem dX2_keepsLaw_145 : decode cX2_keepsLaw 145 = .ok (.iconst 3, 1) := by decide +kernel
theorem dX2_keepsLaw_146 : decode cX2_keepsLaw 146 = .ok (.iconst 0, 1) := by decide +kernel
theorem dX2_keepsLaw_147 : decode cX2_keepsLaw 147 = .ok (.invokevirtual 84, 3) := by decide +kernel
theorem dX2_keepsLaw_150 : decode cX2_keepsLaw 150 = .ok (.pop, 1) := by decide +kernel
theorem dX2_keepsLaw_151 : decode cX2_keepsLaw 151 = .ok (.aload_n 0, 1) := by decide +kernel
theorem dX2_keepsLaw_152 : decode cX2_keepsLaw 152 = .ok (.getfield 47, 3) := by decide +kernel
theorem dX2_keepsLaw_155 : decode cX2_keepsLaw 155 = .ok (.iload_n 3, 1) := by decide +kernel
theorem dX2_keepsLaw_156 : decode cX2_keepsLaw 156 = .ok (.invokevirtual 88, 3) := by decide +kernel
theorem dX2_keepsLaw_159 : decode cX2_keepsLaw 159 = .ok (.iinc 2 1, 3) := by decide +kernel
theorem dX2_keepsLaw_162 : decode cX2_keepsLaw 162 = .ok (.goto (-131), 3) := by decide +kernel
theorem dX2_keepsLaw_165 : decode cX2_keepsLaw 165 = .ok (.aload_n 0, 1) := by decide +kernel
theorem dX2_keepsLaw_166 : decode cX2_keepsLaw 166 = .ok (.invokevirtual 81, 3) := by decide +kernel
theorem dX2_keepsLaw_169 : decode cX2_keepsLaw 169 = .ok (.ifCond .ne 5, 3) := by decide +kernel
theorem dX2_keepsLaw_172 : decode cX2_keepsLaw 172 = .ok (.iconst 0, 1) := by decide +kernel
theorem dX2_keepsLaw_173 : decode cX2_keepsLaw 173 = .ok (.ireturn, 1) := by decide +kernel
theorem dX2_keepsLaw_174 : decode cX2_keepsLaw 174 = .ok (.aload_n 0, 1) := by decide +kernel
theorem dX2_keepsLaw_175 : decode cX2_keepsLaw 175 = .ok (.getfield 47, 3) := by decide +kernel
theorem dX2_keepsLaw_178 : decode cX2_keepsLaw 178 = .ok (.iconst 3, 1) := by decide +kernel
theorem dX2_keepsLaw_179 : decode cX2_keepsLaw 179 = .ok (.iconst 0, 1) := by decide +kernel
theorem dX2_keepsLaw_180 : decode cX2_keepsLaw 180 = .ok (.invokevirtual 84, 3) := by decide +kernel
theorem dX2_keepsLaw_183 : decode cX2_keepsLaw 183 = .ok (.pop, 1) := by decide +kernel
theorem dX2_keepsLaw_184 : decode cX2_keepsLaw 184 = .ok (.aload_n 0, 1) := by decide +kernel
theorem dX2_keepsLaw_185 : decode cX2_keepsLaw 185 = .ok (.iconst 4, 1) := by decide +kernel
theorem dX2_keepsLaw_186 : decode cX2_keepsLaw 186 = .ok (.invokevirtual 65, 3) := by decide +kernel
theorem dX2_keepsLaw_189 : decode cX2_keepsLaw 189 = .ok (.ireturn, 1) := by decide +kernel
theorem dX2_keepsSum_0 : decode cX2_keepsSum 0 = .ok (.aload_n 0, 1) := by decide +kernel
theorem dX2_keepsSum_1 : decode cX2_keepsSum 1 = .ok (.iconst 0, 1) := by decide +kernel
theorem dX2_keepsSum_2 : decode cX2_keepsSum 2 = .ok (.putfield 31, 3) := by decide +kernel
theorem dX2_keepsSum_5 : decode cX2_keepsSum 5 = .ok (.aload_n 0, 1) := by decide +kernel
theorem dX2_keepsSum_6 : decode cX2_keepsSum 6 = .ok (.iconst 0, 1) := by decide +kernel
theorem dX2_keepsSum_7 : decode cX2_keepsSum 7 = .ok (.putfield 34, 3) := by decide +kernel
theorem dX2_keepsSum_10 : decode cX2_keepsSum 10 = .ok (.iconst 0, 1) := by decide +kernel
theorem dX2_keepsSum_11 : decode cX2_keepsSum 11 = .ok (.istore_n 1, 1) := by decide +kernel
theorem dX2_keepsSum_12 : decode cX2_keepsSum 12 = .ok (.iload_n 1, 1) := by decide +kernel
theorem dX2_keepsSum_13 : decode cX2_keepsSum 13 = .ok (.sipush 400, 3) := by decide +kernel
theorem dX2_keepsSum_16 : decode cX2_keepsSum 16 = .ok (.if_icmp .gt 101, 3) := by decide +kernel
theorem dX2_keepsSum_19 : decode cX2_keepsSum 19 = .ok (.aload_n 0, 1) := by decide +kernel
theorem dX2_keepsSum_20 : decode cX2_keepsSum 20 = .ok (.invokevirtual 91, 3) := by decide +kernel
theorem dX2_keepsSum_23 : decode cX2_keepsSum 23 = .ok (.ifCond .eq 17, 3) := by decide +kernel
theorem dX2_keepsSum_26 : decode cX2_keepsSum 26 = .ok (.aload_n 0, 1) := by decide +kernel
theorem dX2_keepsSum_27 : decode cX2_keepsSum 27 = .ok (.invokevirtual 94, 3) := by decide +kernel
theorem dX2_keepsSum_30 : decode cX2_keepsSum 30 = .ok (.ifCond .eq 10, 3) := by decide +kernel
theorem dX2_keepsSum_33 : decode cX2_keepsSum 33 = .ok (.aload_n 0, 1) := by decide +kernel
theorem dX2_keepsSum_34 : decode cX2_keepsSum 34 = .ok (.invokevirtual 97, 3) := by decide +kernel
theorem dX2_keepsSum_37 : decode cX2_keepsSum 37 = .ok (.ifCond .ne 5, 3) := by decide +kernel
theorem dX2_keepsSum_40 : decode cX2_keepsSum 40 = .ok (.iconst 0, 1) := by decide +kernel
theorem dX2_keepsSum_41 : decode cX2_keepsSum 41 = .ok (.ireturn, 1) := by decide +kernel
theorem dX2_keepsSum_42 : decode cX2_keepsSum 42 = .ok (.aload_n 0, 1) := by decide +kernel
theorem dX2_keepsSum_43 : decode cX2_keepsSum 43 = .ok (.getfield 37, 3) := by decide +kernel
theorem dX2_keepsSum_46 : decode cX2_keepsSum 46 = .ok (.aload_n 0, 1) := by decide +kernel
theorem dX2_keepsSum_47 : decode cX2_keepsSum 47 = .ok (.getfield 9, 3) := by decide +kernel
theorem dX2_keepsSum_50 : decode cX2_keepsSum 50 = .ok (.invokevirtual 48, 3) := by decide +kernel
theorem dX2_keepsSum_53 : decode cX2_keepsSum 53 = .ok (.istore_n 2, 1) := by decide +kernel
theorem dX2_keepsSum_54 : decode cX2_keepsSum 54 = .ok (.iload_n 2, 1) := by decide +kernel
theorem dX2_keepsSum_55 : decode cX2_keepsSum 55 = .ok (.invokestatic 100, 3) := by decide +kernel
theorem dX2_keepsSum_58 : decode cX2_keepsSum 58 = .ok (.ifCond .ne 30, 3) := by decide +kernel
theorem dX2_keepsSum_61 : decode cX2_keepsSum 61 = .ok (.aload_n 0, 1) := by decide +kernel
theorem dX2_keepsSum_62 : decode cX2_keepsSum 62 = .ok (.iconst 1, 1) := by decide +kernel
theorem dX2_keepsSum_63 : decode cX2_keepsSum 63 = .ok (.invokevirtual 103, 3) := by decide +kernel
theorem dX2_keepsSum_66 : decode cX2_keepsSum 66 = .ok (.aload_n 0, 1) := by decide +kernel
theorem dX2_keepsSum_67 : decode cX2_keepsSum 67 = .ok (.getfield 34, 3) := by decide +kernel
theorem dX2_keepsSum_70 : decode cX2_keepsSum 70 = .ok (.ifCond .eq 12, 3) := by decide +kernel
theorem dX2_keepsSum_73 : decode cX2_keepsSum 73 = .ok (.aload_n 0, 1) := by decide +kernel
theorem dX2_keepsSum_74 : decode cX2_keepsSum 74 = .ok (.bipush 12, 2) := by decide +kernel
theorem dX2_keepsSum_76 : decode cX2_keepsSum 76 = .ok (.invokevirtual 65, 3) := by decide +kernel
theorem dX2_keepsSum_79 : decode cX2_keepsSum 79 = .ok (.ifCond .eq 7, 3) := by decide +kernel
theorem dX2_keepsSum_82 : decode cX2_keepsSum 82 = .ok (.iconst 1, 1) := by decide +kernel
theorem dX2_keepsSum_83 : decode cX2_keepsSum 83 = .ok (.goto 4, 3) := by decide +kernel
theorem dX2_keepsSum_86 : decode cX2_keepsSum 86 = .ok (.iconst 0, 1) := by decide +kernel
theorem dX2_keepsSum_87 : decode cX2_keepsSum 87 = .ok (.ireturn, 1) := by decide +kernel
theorem dX2_keepsSum_88 : decode cX2_keepsSum 88 = .ok (.aload_n 0, 1) := by decide +kernel
theorem dX2_keepsSum_89 : decode cX2_keepsSum 89 = .ok (.iload_n 2, 1) := by decide +kernel
theorem dX2_keepsSum_90 : decode cX2_keepsSum 90 = .ok (.invokestatic 100, 3) := by decide +kernel
theorem dX2_keepsSum_93 : decode cX2_keepsSum 93 = .ok (.invokevirtual 103, 3) := by decide +kernel
theorem dX2_keepsSum_96 : decode cX2_keepsSum 96 = .ok (.aload_n 0, 1) := by decide +kernel
theorem dX2_keepsSum_97 : decode cX2_keepsSum 97 = .ok (.iload_n 2, 1) := by decide +kernel
theorem dX2_keepsSum_98 : decode cX2_keepsSum 98 = .ok (.invokevirtual 65, 3) := by decide +kernel
theorem dX2_keepsSum_101 : decode cX2_keepsSum 101 = .ok (.ifCond .ne 5, 3) := by decide +kernel
theorem dX2_keepsSum_104 : decode cX2_keepsSum 104 = .ok (.iconst 0, 1) := by decide +kernel
theorem dX2_keepsSum_105 : decode cX2_keepsSum 105 = .ok (.ireturn, 1) := by decide +kernel
theorem dX2_keepsSum_106 : decode cX2_keepsSum 106 = .ok (.aload_n 0, 1) := by decide +kernel
theorem dX2_keepsSum_107 : decode cX2_keepsSum 107 = .ok (.iload_n 2, 1) := by decide +kernel
theorem dX2_keepsSum_108 : decode cX2_keepsSum 108 = .ok (.invokevirtual 106, 3) := by decide +kernel
theorem dX2_keepsSum_111 : decode cX2_keepsSum 111 = .ok (.iinc 1 1, 3) := by decide +kernel
theorem dX2_keepsSum_114 : decode cX2_keepsSum 114 = .ok (.goto (-102), 3) := by decide +kernel
theorem dX2_keepsSum_117 : decode cX2_keepsSum 117 = .ok (.iconst 0, 1) := by decide +kernel
theorem dX2_keepsSum_118 : decode cX2_keepsSum 118 = .ok (.ireturn, 1) := by decide +kernel
theorem dX2_rank_0 : decode cX2_rank 0 = .ok (.iload_n 0, 1) := by decide +kernel
theorem dX2_rank_1 : decode cX2_rank 1 = .ok (.bipush 6, 2) := by decide +kernel
theorem dX2_rank_3 : decode cX2_rank 3 = .ok (.if_icmp .eq 9, 3) := by decide +kernel
theorem dX2_rank_6 : decode cX2_rank 6 = .ok (.iload_n 0, 1) := by decide +kernel
theorem dX2_rank_7 : decode cX2_rank 7 = .ok (.bipush 7, 2) := by decide +kernel
theorem dX2_rank_9 : decode cX2_rank 9 = .ok (.if_icmp .ne 5, 3) := by decide +kernel
theorem dX2_rank_12 : decode cX2_rank 12 = .ok (.iconst 1, 1) := by decide +kernel
theorem dX2_rank_13 : decode cX2_rank 13 = .ok (.ireturn, 1) := by decide +kernel
theorem dX2_rank_14 : decode cX2_rank 14 = .ok (.iload_n 0, 1) := by decide +kernel
theorem dX2_rank_15 : decode cX2_rank 15 = .ok (.bipush 8, 2) := by decide +kernel
theorem dX2_rank_17 : decode cX2_rank 17 = .ok (.if_icmp .eq 9, 3) := by decide +kernel
theorem dX2_rank_20 : decode cX2_rank 20 = .ok (.iload_n 0, 1) := by decide +kernel
theorem dX2_rank_21 : decode cX2_rank 21 = .ok (.bipush 9, 2) := by decide +kernel
theorem dX2_rank_23 : decode cX2_rank 23 = .ok (.if_icmp .ne 7, 3) := by decide +kernel
theorem dX2_rank_26 : decode cX2_rank 26 = .ok (.iconst 2, 1) := by decide +kernel
theorem dX2_rank_27 : decode cX2_rank 27 = .ok (.goto 4, 3) := by decide +kernel
theorem dX2_rank_30 : decode cX2_rank 30 = .ok (.iconst 0, 1) := by decide +kernel
theorem dX2_rank_31 : decode cX2_rank 31 = .ok (.ireturn, 1) := by decide +kernel
theorem dX2_takeOpenings_0 : decode cX2_takeOpenings 0 = .ok (.iconst 0, 1) := by decide +kernel
theorem dX2_takeOpenings_1 : decode cX2_takeOpenings 1 = .ok (.istore_n 1, 1) := by decide +kernel
theorem dX2_takeOpenings_2 : decode cX2_takeOpenings 2 = .ok (.iload_n 1, 1) := by decide +kernel
theorem dX2_takeOpenings_3 : decode cX2_takeOpenings 3 = .ok (.sipush 400, 3) := by decide +kernel
theorem dX2_takeOpenings_6 : decode cX2_takeOpenings 6 = .ok (.if_icmp .gt 74, 3) := by decide +kernel
theorem dX2_takeOpenings_9 : decode cX2_takeOpenings 9 = .ok (.aload_n 0, 1) := by decide +kernel
theorem dX2_takeOpenings_10 : decode cX2_takeOpenings 10 = .ok (.getfield 37, 3) := by decide +kernel
theorem dX2_takeOpenings_13 : decode cX2_takeOpenings 13 = .ok (.aload_n 0, 1) := by decide +kernel
theorem dX2_takeOpenings_14 : decode cX2_takeOpenings 14 = .ok (.getfield 9, 3) := by decide +kernel
theorem dX2_takeOpenings_17 : decode cX2_takeOpenings 17 = .ok (.invokevirtual 48, 3) := by decide +kernel
theorem dX2_takeOpenings_20 : decode cX2_takeOpenings 20 = .ok (.bipush 11, 2) := by decide +kernel
theorem dX2_takeOpenings_22 : decode cX2_takeOpenings 22 = .ok (.if_icmp .ne 58, 3) := by decide +kernel
theorem dX2_takeOpenings_25 : decode cX2_takeOpenings 25 = .ok (.aload_n 0, 1) := by decide +kernel
theorem dX2_takeOpenings_26 : decode cX2_takeOpenings 26 = .ok (.getfield 34, 3) := by decide +kernel
theorem dX2_takeOpenings_29 : decode cX2_takeOpenings 29 = .ok (.bipush 6, 2) := by decide +kernel
theorem dX2_takeOpenings_31 : decode cX2_takeOpenings 31 = .ok (.if_icmp .ne 16, 3) := by decide +kernel
theorem dX2_takeOpenings_34 : decode cX2_takeOpenings 34 = .ok (.aload_n 0, 1) := by decide +kernel
theorem dX2_takeOpenings_35 : decode cX2_takeOpenings 35 = .ok (.getfield 37, 3) := by decide +kernel
theorem dX2_takeOpenings_38 : decode cX2_takeOpenings 38 = .ok (.iconst 2, 1) := by decide +kernel
theorem dX2_takeOpenings_39 : decode cX2_takeOpenings 39 = .ok (.aload_n 0, 1) := by decide +kernel
theorem dX2_takeOpenings_40 : decode cX2_takeOpenings 40 = .ok (.getfield 9, 3) := by decide +kernel
theorem dX2_takeOpenings_43 : decode cX2_takeOpenings 43 = .ok (.invokevirtual 72, 3) := by decide +kernel
theorem dX2_takeOpenings_46 : decode cX2_takeOpenings 46 = .ok (.ireturn, 1) := by decide +kernel
theorem dX2_takeOpenings_47 : decode cX2_takeOpenings 47 = .ok (.aload_n 0, 1) := by decide +kernel
theorem dX2_takeOpenings_48 : decode cX2_takeOpenings 48 = .ok (.bipush 11, 2) := by decide +kernel
theorem dX2_takeOpenings_50 : decode cX2_takeOpenings 50 = .ok (.invokevirtual 65, 3) := by decide +kernel
theorem dX2_takeOpenings_53 : decode cX2_takeOpenings 53 = .ok (.ifCond .ne 5, 3) := by decide +kernel
theorem dX2_takeOpenings_56 : decode cX2_takeOpenings 56 = .ok (.iconst 0, 1) := by decide +kernel
theorem dX2_takeOpenings_57 : decode cX2_takeOpenings 57 = .ok (.ireturn, 1) := by decide +kernel
theorem dX2_takeOpenings_58 : decode cX2_takeOpenings 58 = .ok (.aload_n 0, 1) := by decide +kernel
theorem dX2_takeOpenings_59 : decode cX2_takeOpenings 59 = .ok (.bipush 11, 2) := by decide +kernel
theorem dX2_takeOpenings_61 : decode cX2_takeOpenings 61 = .ok (.invokevirtual 106, 3) := by decide +kernel
theorem dX2_takeOpenings_64 : decode cX2_takeOpenings 64 = .ok (.aload_n 0, 1) := by decide +kernel
theorem dX2_takeOpenings_65 : decode cX2_takeOpenings 65 = .ok (.dup, 1) := by decide +kernel
theorem dX2_takeOpenings_66 : decode cX2_takeOpenings 66 = .ok (.getfield 34, 3) := by decide +kernel
theorem dX2_takeOpenings_69 : decode cX2_takeOpenings 69 = .ok (.iconst 1, 1) := by decide +kernel
theorem dX2_takeOpenings_70 : decode cX2_takeOpenings 70 = .ok (.iadd, 1) := by decide +kernel
theorem dX2_takeOpenings_71 : decode cX2_takeOpenings 71 = .ok (.putfield 34, 3) := by decide +kernel
theorem dX2_takeOpenings_74 : decode cX2_takeOpenings 74 = .ok (.iinc 1 1, 3) := by decide +kernel
theorem dX2_takeOpenings_77 : decode cX2_takeOpenings 77 = .ok (.goto (-75), 3) := by decide +kernel
theorem dX2_takeOpenings_80 : decode cX2_takeOpenings 80 = .ok (.iconst 1, 1) := by decide +kernel
theorem dX2_takeOpenings_81 : decode cX2_takeOpenings 81 = .ok (.ireturn, 1) := by decide +kernel
theorem dX2_takeUnit_0 : decode cX2_takeUnit 0 = .ok (.aload_n 0, 1) := by decide +kernel
theorem dX2_takeUnit_1 : decode cX2_takeUnit 1 = .ok (.getfield 37, 3) := by decide +kernel
theorem dX2_takeUnit_4 : decode cX2_takeUnit 4 = .ok (.aload_n 0, 1) := by decide +kernel
theorem dX2_takeUnit_5 : decode cX2_takeUnit 5 = .ok (.getfield 9, 3) := by decide +kernel
theorem dX2_takeUnit_8 : decode cX2_takeUnit 8 = .ok (.invokevirtual 48, 3) := by decide +kernel
theorem dX2_takeUnit_11 : decode cX2_takeUnit 11 = .ok (.istore_n 1, 1) := by decide +kernel
theorem dX2_takeUnit_12 : decode cX2_takeUnit 12 = .ok (.iload_n 1, 1) := by decide +kernel
theorem dX2_takeUnit_13 : decode cX2_takeUnit 13 = .ok (.iconst 3, 1) := by decide +kernel
theorem dX2_takeUnit_14 : decode cX2_takeUnit 14 = .ok (.if_icmp .ne 30, 3) := by decide +kernel
theorem dX2_takeUnit_17 : decode cX2_takeUnit 17 = .ok (.aload_n 0, 1) := by decide +kernel
theorem dX2_takeUnit_18 : decode cX2_takeUnit 18 = .ok (.getfield 47, 3) := by decide +kernel
theorem dX2_takeUnit_21 : decode cX2_takeUnit 21 = .ok (.iconst 0, 1) := by decide +kernel
theorem dX2_takeUnit_22 : decode cX2_takeUnit 22 = .ok (.aload_n 0, 1) := by decide +kernel
theorem dX2_takeUnit_23 : decode cX2_takeUnit 23 = .ok (.getfield 37, 3) := by decide +kernel
theorem dX2_takeUnit_26 : decode cX2_takeUnit 26 = .ok (.aload_n 0, 1) := by decide +kernel
theorem dX2_takeUnit_27 : decode cX2_takeUnit 27 = .ok (.getfield 9, 3) := by decide +kernel
theorem dX2_takeUnit_30 : decode cX2_takeUnit 30 = .ok (.invokevirtual 109, 3) := by decide +kernel
theorem dX2_takeUnit_33 : decode cX2_takeUnit 33 = .ok (.l2i, 1) := by decide +kernel
theorem dX2_takeUnit_34 : decode cX2_takeUnit 34 = .ok (.invokevirtual 84, 3) := by decide +kernel
theorem dX2_takeUnit_37 : decode cX2_takeUnit 37 = .ok (.pop, 1) := by decide +kernel
theorem dX2_takeUnit_38 : decode cX2_takeUnit 38 = .ok (.aload_n 0, 1) := by decide +kernel
theorem dX2_takeUnit_39 : decode cX2_takeUnit 39 = .ok (.iload_n 1, 1) := by decide +kernel
theorem dX2_takeUnit_40 : decode cX2_takeUnit 40 = .ok (.invokevirtual 65, 3) := by decide +kernel
theorem dX2_takeUnit_43 : decode cX2_takeUnit 43 = .ok (.ireturn, 1) := by decide +kernel
theorem dX2_takeUnit_44 : decode cX2_takeUnit 44 = .ok (.iload_n 1, 1) := by decide +kernel
theorem dX2_takeUnit_45 : decode cX2_takeUnit 45 = .ok (.bipush 26, 2) := by decide +kernel
theorem dX2_takeUnit_47 : decode cX2_takeUnit 47 = .ok (.if_icmp .lt 28, 3) := by decide +kernel
theorem dX2_takeUnit_50 : decode cX2_takeUnit 50 = .ok (.iload_n 1, 1) := by decide +kernel
theorem dX2_takeUnit_51 : decode cX2_takeUnit 51 = .ok (.bipush 34, 2) := by decide +kernel
theorem dX2_takeUnit_53 : decode cX2_takeUnit 53 = .ok (.if_icmp .gt 22, 3) := by decide +kernel
theorem dX2_takeUnit_56 : decode cX2_takeUnit 56 = .ok (.aload_n 0, 1) := by decide +kernel
theorem dX2_takeUnit_57 : decode cX2_takeUnit 57 = .ok (.getfield 47, 3) := by decide +kernel
theorem dX2_takeUnit_60 : decode cX2_takeUnit 60 = .ok (.iconst 1, 1) := by decide +kernel
theorem dX2_takeUnit_61 : decode cX2_takeUnit 61 = .ok (.iload_n 1, 1) := by decide +kernel
theorem dX2_takeUnit_62 : decode cX2_takeUnit 62 = .ok (.bipush 26, 2) := by decide +kernel
theorem dX2_takeUnit_64 : decode cX2_takeUnit 64 = .ok (.isub, 1) := by decide +kernel
theorem dX2_takeUnit_65 : decode cX2_takeUnit 65 = .ok (.invokevirtual 84, 3) := by decide +kernel
theorem dX2_takeUnit_68 : decode cX2_takeUnit 68 = .ok (.pop, 1) := by decide +kernel
theorem dX2_takeUnit_69 : decode cX2_takeUnit 69 = .ok (.aload_n 0, 1) := by decide +kernel
theorem dX2_takeUnit_70 : decode cX2_takeUnit 70 = .ok (.iload_n 1, 1) := by decide +kernel
theorem dX2_takeUnit_71 : decode cX2_takeUnit 71 = .ok (.invokevirtual 65, 3) := by decide +kernel
theorem dX2_takeUnit_74 : decode cX2_takeUnit 74 = .ok (.ireturn, 1) := by decide +kernel
theorem dX2_takeUnit_75 : decode cX2_takeUnit 75 = .ok (.aload_n 0, 1) := by decide +kernel
theorem dX2_takeUnit_76 : decode cX2_takeUnit 76 = .ok (.getfield 37, 3) := by decide +kernel
theorem dX2_takeUnit_79 : decode cX2_takeUnit 79 = .ok (.iconst 1, 1) := by decide +kernel
theorem dX2_takeUnit_80 : decode cX2_takeUnit 80 = .ok (.aload_n 0, 1) := by decide +kernel
theorem dX2_takeUnit_81 : decode cX2_takeUnit 81 = .ok (.getfield 9, 3) := by decide +kernel
theorem dX2_takeUnit_84 : decode cX2_takeUnit 84 = .ok (.invokevirtual 72, 3) := by decide +kernel
theorem dX2_takeUnit_87 : decode cX2_takeUnit 87 = .ok (.ireturn, 1) := by decide +kernel
theorem dX2_takeClosings_0 : decode cX2_takeClosings 0 = .ok (.iconst 0, 1) := by decide +kernel
theorem dX2_takeClosings_1 : decode cX2_takeClosings 1 = .ok (.istore_n 1, 1) := by decide +kernel
theorem dX2_takeClosings_2 : decode cX2_takeClosings 2 = .ok (.iload_n 1, 1) := by decide +kernel
theorem dX2_takeClosings_3 : decode cX2_takeClosings 3 = .ok (.sipush 400, 3) := by decide +kernel
theorem dX2_takeClosings_6 : decode cX2_takeClosings 6 = .ok (.if_icmp .gt 72, 3) := by decide +kernel
theorem dX2_takeClosings_9 : decode cX2_takeClosings 9 = .ok (.aload_n 0, 1) := by decide +kernel
theorem dX2_takeClosings_10 : decode cX2_takeClosings 10 = .ok (.getfield 34, 3) := by decide +kernel
theorem dX2_takeClosings_13 : decode cX2_takeClosings 13 = .ok (.ifCond .le 65, 3) := by decide +kernel
theorem dX2_takeClosings_16 : decode cX2_takeClosings 16 = .ok (.aload_n 0, 1) := by decide +kernel
theorem dX2_takeClosings_17 : decode cX2_takeClosings 17 = .ok (.getfield 37, 3) := by decide +kernel
theorem dX2_takeClosings_20 : decode cX2_takeClosings 20 = .ok (.aload_n 0, 1) := by decide +kernel
theorem dX2_takeClosings_21 : decode cX2_takeClosings 21 = .ok (.getfield 9, 3) := by decide +kernel
theorem dX2_takeClosings_24 : decode cX2_takeClosings 24 = .ok (.invokevirtual 48, 3) := by decide +kernel
theorem dX2_takeClosings_27 : decode cX2_takeClosings 27 = .ok (.bipush 12, 2) := by decide +kernel
theorem dX2_takeClosings_29 : decode cX2_takeClosings 29 = .ok (.if_icmp .ne 49, 3) := by decide +kernel
theorem dX2_takeClosings_32 : decode cX2_takeClosings 32 = .ok (.aload_n 0, 1) := by decide +kernel
theorem dX2_takeClosings_33 : decode cX2_takeClosings 33 = .ok (.bipush 12, 2) := by decide +kernel
theorem dX2_takeClosings_35 : decode cX2_takeClosings 35 = .ok (.invokevirtual 65, 3) := by decide +kernel
theorem dX2_takeClosings_38 : decode cX2_takeClosings 38 = .ok (.ifCond .ne 5, 3) := by decide +kernel
theorem dX2_takeClosings_41 : decode cX2_takeClosings 41 = .ok (.iconst 0, 1) := by decide +kernel
theorem dX2_takeClosings_42 : decode cX2_takeClosings 42 = .ok (.ireturn, 1) := by decide +kernel
theorem dX2_takeClosings_43 : decode cX2_takeClosings 43 = .ok (.aload_n 0, 1) := by decide +kernel
theorem dX2_takeClosings_44 : decode cX2_takeClosings 44 = .ok (.iconst 1, 1) := by decide +kernel
theorem dX2_takeClosings_45 : decode cX2_takeClosings 45 = .ok (.invokevirtual 103, 3) := by decide +kernel
theorem dX2_takeClosings_48 : decode cX2_takeClosings 48 = .ok (.aload_n 0, 1) := by decide +kernel
theorem dX2_takeClosings_49 : decode cX2_takeClosings 49 = .ok (.aload_n 0, 1) := by decide +kernel
theorem dX2_takeClosings_50 : decode cX2_takeClosings 50 = .ok (.getfield 31, 3) := by decide +kernel
theorem dX2_takeClosings_53 : decode cX2_takeClosings 53 = .ok (.iconst 1, 1) := by decide +kernel
theorem dX2_takeClosings_54 : decode cX2_takeClosings 54 = .ok (.isub, 1) := by decide +kernel
theorem dX2_takeClosings_55 : decode cX2_takeClosings 55 = .ok (.iconst 0, 1) := by decide +kernel
theorem dX2_takeClosings_56 : decode cX2_takeClosings 56 = .ok (.invokestatic 113, 3) := by decide +kernel
theorem dX2_takeClosings_59 : decode cX2_takeClosings 59 = .ok (.putfield 31, 3) := by decide +kernel
theorem dX2_takeClosings_62 : decode cX2_takeClosings 62 = .ok (.aload_n 0, 1) := by decide +kernel
theorem dX2_takeClosings_63 : decode cX2_takeClosings 63 = .ok (.dup, 1) := by decide +kernel
theorem dX2_takeClosings_64 : decode cX2_takeClosings 64 = .ok (.getfield 34, 3) := by decide +kernel
theorem dX2_takeClosings_67 : decode cX2_takeClosings 67 = .ok (.iconst 1, 1) := by decide +kernel
theorem dX2_takeClosings_68 : decode cX2_takeClosings 68 = .ok (.isub, 1) := by decide +kernel
theorem dX2_takeClosings_69 : decode cX2_takeClosings 69 = .ok (.putfield 34, 3) := by decide +kernel
theorem dX2_takeClosings_72 : decode cX2_takeClosings 72 = .ok (.iinc 1 1, 3) := by decide +kernel
theorem dX2_takeClosings_75 : decode cX2_takeClosings 75 = .ok (.goto (-73), 3) := by decide +kernel
theorem dX2_takeClosings_78 : decode cX2_takeClosings 78 = .ok (.iconst 1, 1) := by decide +kernel
theorem dX2_takeClosings_79 : decode cX2_takeClosings 79 = .ok (.ireturn, 1) := by decide +kernel
theorem dX2_await_0 : decode cX2_await 0 = .ok (.aload_n 0, 1) := by decide +kernel
theorem dX2_await_1 : decode cX2_await 1 = .ok (.getfield 31, 3) := by decide +kernel
theorem dX2_await_4 : decode cX2_await 4 = .ok (.aload_n 0, 1) := by decide +kernel
theorem dX2_await_5 : decode cX2_await 5 = .ok (.getfield 27, 3) := by decide +kernel
theorem dX2_await_8 : decode cX2_await 8 = .ok (.arraylength, 1) := by decide +kernel
theorem dX2_await_9 : decode cX2_await 9 = .ok (.if_icmp .ge 23, 3) := by decide +kernel
theorem dX2_await_12 : decode cX2_await 12 = .ok (.aload_n 0, 1) := by decide +kernel
theorem dX2_await_13 : decode cX2_await 13 = .ok (.getfield 27, 3) := by decide +kernel
theorem dX2_await_16 : decode cX2_await 16 = .ok (.aload_n 0, 1) := by decide +kernel
theorem dX2_await_17 : decode cX2_await 17 = .ok (.getfield 31, 3) := by decide +kernel
theorem dX2_await_20 : decode cX2_await 20 = .ok (.iload_n 1, 1) := by decide +kernel
theorem dX2_await_21 : decode cX2_await 21 = .ok (.iastore, 1) := by decide +kernel
theorem dX2_await_22 : decode cX2_await 22 = .ok (.aload_n 0, 1) := by decide +kernel
theorem dX2_await_23 : decode cX2_await 23 = .ok (.dup, 1) := by decide +kernel
theorem dX2_await_24 : decode cX2_await 24 = .ok (.getfield 31, 3) := by decide +kernel
theorem dX2_await_27 : decode cX2_await 27 = .ok (.iconst 1, 1) := by decide +kernel
theorem dX2_await_28 : decode cX2_await 28 = .ok (.iadd, 1) := by decide +kernel
theorem dX2_await_29 : decode cX2_await 29 = .ok (.putfield 31, 3) := by decide +kernel
theorem dX2_await_32 : decode cX2_await 32 = .ok (.return_, 1) := by decide +kernel
theorem dX2_settle_0 : decode cX2_settle 0 = .ok (.aload_n 0, 1) := by decide +kernel
theorem dX2_settle_1 : decode cX2_settle 1 = .ok (.getfield 27, 3) := by decide +kernel
theorem dX2_settle_4 : decode cX2_settle 4 = .ok (.arraylength, 1) := by decide +kernel
theorem dX2_settle_5 : decode cX2_settle 5 = .ok (.istore_n 2, 1) := by decide +kernel
theorem dX2_settle_6 : decode cX2_settle 6 = .ok (.iload_n 2, 1) := by decide +kernel
theorem dX2_settle_7 : decode cX2_settle 7 = .ok (.ifCond .le 57, 3) := by decide +kernel
theorem dX2_settle_10 : decode cX2_settle 10 = .ok (.aload_n 0, 1) := by decide +kernel
theorem dX2_settle_11 : decode cX2_settle 11 = .ok (.getfield 31, 3) := by decide +kernel
theorem dX2_settle_14 : decode cX2_settle 14 = .ok (.ifCond .le 50, 3) := by decide +kernel
theorem dX2_settle_17 : decode cX2_settle 17 = .ok (.aload_n 0, 1) := by decide +kernel
theorem dX2_settle_18 : decode cX2_settle 18 = .ok (.getfield 27, 3) := by decide +kernel
theorem dX2_settle_21 : decode cX2_settle 21 = .ok (.aload_n 0, 1) := by decide +kernel
theorem dX2_settle_22 : decode cX2_settle 22 = .ok (.getfield 31, 3) := by decide +kernel
theorem dX2_settle_25 : decode cX2_settle 25 = .ok (.iconst 1, 1) := by decide +kernel
theorem dX2_settle_26 : decode cX2_settle 26 = .ok (.isub, 1) := by decide +kernel
theorem dX2_settle_27 : decode cX2_settle 27 = .ok (.iaload, 1) := by decide +kernel
theorem dX2_settle_28 : decode cX2_settle 28 = .ok (.istore_n 3, 1) := by decide +kernel
theorem dX2_settle_29 : decode cX2_settle 29 = .ok (.iload_n 3, 1) := by decide +kernel
theorem dX2_settle_30 : decode cX2_settle 30 = .ok (.invokestatic 100, 3) := by decide +kernel
theorem dX2_settle_33 : decode cX2_settle 33 = .ok (.iload_n 1, 1) := by decide +kernel
theorem dX2_settle_34 : decode cX2_settle 34 = .ok (.if_icmp .ge 4, 3) := by decide +kernel
theorem dX2_settle_37 : decode cX2_settle 37 = .ok (.return_, 1) := by decide +kernel
theorem dX2_settle_38 : decode cX2_settle 38 = .ok (.aload_n 0, 1) := by decide +kernel
theorem dX2_settle_39 : decode cX2_settle 39 = .ok (.getfield 47, 3) := by decide +kernel
theorem dX2_settle_42 : decode cX2_settle 42 = .ok (.iload_n 3, 1) := by decide +kernel
theorem dX2_settle_43 : decode cX2_settle 43 = .ok (.iconst 0, 1) := by decide +kernel
theorem dX2_settle_44 : decode cX2_settle 44 = .ok (.invokevirtual 84, 3) := by decide +kernel
theorem dX2_settle_47 : decode cX2_settle 47 = .ok (.pop, 1) := by decide +kernel
theorem dX2_settle_48 : decode cX2_settle 48 = .ok (.aload_n 0, 1) := by decide +kernel
theorem dX2_settle_49 : decode cX2_settle 49 = .ok (.dup, 1) := by decide +kernel
theorem dX2_settle_50 : decode cX2_settle 50 = .ok (.getfield 31, 3) := by decide +kernel
theorem dX2_settle_53 : decode cX2_settle 53 = .ok (.iconst 1, 1) := by decide +kernel
theorem dX2_settle_54 : decode cX2_settle 54 = .ok (.isub, 1) := by decide +kernel
theorem dX2_settle_55 : decode cX2_settle 55 = .ok (.putfield 31, 3) := by decide +kernel
theorem dX2_settle_58 : decode cX2_settle 58 = .ok (.iinc 2 (-1), 3) := by decide +kernel
theorem dX2_settle_61 : decode cX2_settle 61 = .ok (.goto (-55), 3) := by decide +kernel
theorem dX2_settle_64 : decode cX2_settle 64 = .ok (.return_, 1) := by decide +kernel
theorem dX3_init_0 : decode cX3_init 0 = .ok (.aload_n 0, 1) := by decide +kernel
theorem dX3_init_1 : decode cX3_init 1 = .ok (.invokespecial 3, 3) := by decide +kernel
theorem dX3_init_4 : decode cX3_init 4 = .ok (.aload_n 0, 1) := by decide +kernel
theorem dX3_init_5 : decode cX3_init 5 = .ok (.iconst 0, 1) := by decide +kernel
theorem dX3_init_6 : decode cX3_init 6 = .ok (.putfield 9, 3) := by decide +kernel
theorem dX3_init_9 : decode cX3_init 9 = .ok (.aload_n 0, 1) := by decide +kernel
theorem dX3_init_10 : decode cX3_init 10 = .ok (.iconst 0, 1) := by decide +kernel
theorem dX3_init_11 : decode cX3_init 11 = .ok (.putfield 15, 3) := by decide +kernel
theorem dX3_init_14 : decode cX3_init 14 = .ok (.aload_n 0, 1) := by decide +kernel
theorem dX3_init_15 : decode cX3_init 15 = .ok (.iconst 0, 1) := by decide +kernel
theorem dX3_init_16 : decode cX3_init 16 = .ok (.putfield 18, 3) := by decide +kernel
theorem dX3_init_19 : decode cX3_init 19 = .ok (.aload_n 0, 1) := by decide +kernel
theorem dX3_init_20 : decode cX3_init 20 = .ok (.iconst 0, 1) := by decide +kernel
theorem dX3_init_21 : decode cX3_init 21 = .ok (.putfield 21, 3) := by decide +kernel
theorem dX3_init_24 : decode cX3_init 24 = .ok (.aload_n 0, 1) := by decide +kernel
theorem dX3_init_25 : decode cX3_init 25 = .ok (.iconst 1, 1) := by decide +kernel
theorem dX3_init_26 : decode cX3_init 26 = .ok (.putfield 24, 3) := by decide +kernel
theorem dX3_init_29 : decode cX3_init 29 = .ok (.aload_n 0, 1) := by decide +kernel
theorem dX3_init_30 : decode cX3_init 30 = .ok (.iconst 0, 1) := by decide +kernel
theorem dX3_init_31 : decode cX3_init 31 = .ok (.putfield 27, 3) := by decide +kernel
theorem dX3_init_34 : decode cX3_init 34 = .ok (.aload_n 0, 1) := by decide +kernel
theorem dX3_init_35 : decode cX3_init 35 = .ok (.bipush 7, 2) := by decide +kernel
theorem dX3_init_37 : decode cX3_init 37 = .ok (.newarray .int, 2) := by decide +kernel
theorem dX3_init_39 : decode cX3_init 39 = .ok (.putfield 30, 3) := by decide +kernel
theorem dX3_init_42 : decode cX3_init 42 = .ok (.aload_n 0, 1) := by decide +kernel
theorem dX3_init_43 : decode cX3_init 43 = .ok (.bipush 7, 2) := by decide +kernel
theorem dX3_init_45 : decode cX3_init 45 = .ok (.newarray .int, 2) := by decide +kernel
theorem dX3_init_47 : decode cX3_init 47 = .ok (.putfield 34, 3) := by decide +kernel
theorem dX3_init_50 : decode cX3_init 50 = .ok (.aload_n 0, 1) := by decide +kernel
theorem dX3_init_51 : decode cX3_init 51 = .ok (.bipush 7, 2) := by decide +kernel
theorem dX3_init_53 : decode cX3_init 53 = .ok (.newarray .int, 2) := by decide +kernel
theorem dX3_init_55 : decode cX3_init 55 = .ok (.putfield 37, 3) := by decide +kernel
theorem dX3_init_58 : decode cX3_init 58 = .ok (.aload_n 0, 1) := by decide +kernel
theorem dX3_init_59 : decode cX3_init 59 = .ok (.bipush 7, 2) := by decide +kernel
theorem dX3_init_61 : decode cX3_init 61 = .ok (.newarray .int, 2) := by decide +kernel
theorem dX3_init_63 : decode cX3_init 63 = .ok (.putfield 40, 3) := by decide +kernel
theorem dX3_init_66 : decode cX3_init 66 = .ok (.aload_n 0, 1) := by decide +kernel
theorem dX3_init_67 : decode cX3_init 67 = .ok (.bipush 7, 2) := by decide +kernel
theorem dX3_init_69 : decode cX3_init 69 = .ok (.newarray .int, 2) := by decide +kernel
theorem dX3_init_71 : decode cX3_init 71 = .ok (.putfield 43, 3) := by decide +kernel
theorem dX3_init_74 : decode cX3_init 74 = .ok (.aload_n 0, 1) := by decide +kernel
theorem dX3_init_75 : decode cX3_init 75 = .ok (.new 46, 3) := by decide +kernel
theorem dX3_init_78 : decode cX3_init 78 = .ok (.dup, 1) := by decide +kernel
theorem dX3_init_79 : decode cX3_init 79 = .ok (.invokespecial 48, 3) := by decide +kernel
theorem dX3_init_82 : decode cX3_init 82 = .ok (.putfield 49, 3) := by decide +kernel
theorem dX3_init_85 : decode cX3_init 85 = .ok (.aload_n 0, 1) := by decide +kernel
theorem dX3_init_86 : decode cX3_init 86 = .ok (.new 53, 3) := by decide +kernel
theorem dX3_init_89 : decode cX3_init 89 = .ok (.dup, 1) := by decide +kernel
theorem dX3_init_90 : decode cX3_init 90 = .ok (.invokespecial 55, 3) := by decide +kernel
theorem dX3_init_93 : decode cX3_init 93 = .ok (.putfield 56, 3) := by decide +kernel
theorem dX3_init_96 : decode cX3_init 96 = .ok (.aload_n 0, 1) := by decide +kernel
theorem dX3_init_97 : decode cX3_init 97 = .ok (.bipush 20, 2) := by decide +kernel
theorem dX3_init_99 : decode cX3_init 99 = .ok (.newarray .long, 2) := by decide +kernel
theorem dX3_init_101 : decode cX3_init 101 = .ok (.putfield 60, 3) := by decide +kernel
theorem dX3_init_104 : decode cX3_init 104 = .ok (.aload_n 0, 1) := by decide +kernel
theorem dX3_init_105 : decode cX3_init 105 = .ok (.bipush 20, 2) := by decide +kernel
theorem dX3_init_107 : decode cX3_init 107 = .ok (.newarray .int, 2) := by decide +kernel
theorem dX3_init_109 : decode cX3_init 109 = .ok (.putfield 64, 3) := by decide +kernel
theorem dX3_init_112 : decode cX3_init 112 = .ok (.aload_n 0, 1) := by decide +kernel
theorem dX3_init_113 : decode cX3_init 113 = .ok (.bipush 20, 2) := by decide +kernel
theorem dX3_init_115 : decode cX3_init 115 = .ok (.newarray .int, 2) := by decide +kernel
theorem dX3_init_117 : decode cX3_init 117 = .ok (.putfield 67, 3) := by decide +kernel
theorem dX3_init_120 : decode cX3_init 120 = .ok (.aload_n 0, 1) := by decide +kernel
theorem dX3_init_121 : decode cX3_init 121 = .ok (.iconst 0, 1) := by decide +kernel
theorem dX3_init_122 : decode cX3_init 122 = .ok (.putfield 70, 3) := by decide +kernel
theorem dX3_init_125 : decode cX3_init 125 = .ok (.aload_n 0, 1) := by decide +kernel
theorem dX3_init_126 : decode cX3_init 126 = .ok (.getfield 56, 3) := by decide +kernel
theorem dX3_init_129 : decode cX3_init 129 = .ok (.invokevirtual 73, 3) := by decide +kernel
theorem dX3_init_132 : decode cX3_init 132 = .ok (.return_, 1) := by decide +kernel
theorem dX3_clear_0 : decode cX3_clear 0 = .ok (.aload_n 0, 1) := by decide +kernel
theorem dX3_clear_1 : decode cX3_clear 1 = .ok (.iconst 0, 1) := by decide +kernel
theorem dX3_clear_2 : decode cX3_clear 2 = .ok (.putfield 9, 3) := by decide +kernel
theorem dX3_clear_5 : decode cX3_clear 5 = .ok (.aload_n 0, 1) := by decide +kernel
theorem dX3_clear_6 : decode cX3_clear 6 = .ok (.iconst 0, 1) := by decide +kernel
theorem dX3_clear_7 : decode cX3_clear 7 = .ok (.putfield 15, 3) := by decide +kernel
theorem dX3_clear_10 : decode cX3_clear 10 = .ok (.aload_n 0, 1) := by decide +kernel
theorem dX3_clear_11 : decode cX3_clear 11 = .ok (.iconst 0, 1) := by decide +kernel
theorem dX3_clear_12 : decode cX3_clear 12 = .ok (.putfield 18, 3) := by decide +kernel
theorem dX3_clear_15 : decode cX3_clear 15 = .ok (.aload_n 0, 1) := by decide +kernel
theorem dX3_clear_16 : decode cX3_clear 16 = .ok (.iconst 0, 1) := by decide +kernel
theorem dX3_clear_17 : decode cX3_clear 17 = .ok (.putfield 21, 3) := by decide +kernel
theorem dX3_clear_20 : decode cX3_clear 20 = .ok (.aload_n 0, 1) := by decide +kernel
theorem dX3_clear_21 : decode cX3_clear 21 = .ok (.iconst 1, 1) := by decide +kernel
theorem dX3_clear_22 : decode cX3_clear 22 = .ok (.putfield 24, 3) := by decide +kernel
theorem dX3_clear_25 : decode cX3_clear 25 = .ok (.aload_n 0, 1) := by decide +kernel
theorem dX3_clear_26 : decode cX3_clear 26 = .ok (.iconst 0, 1) := by decide +kernel
theorem dX3_clear_27 : decode cX3_clear 27 = .ok (.putfield 27, 3) := by decide +kernel
theorem dX3_clear_30 : decode cX3_clear 30 = .ok (.aload_n 0, 1) := by decide +kernel
theorem dX3_clear_31 : decode cX3_clear 31 = .ok (.iconst 0, 1) := by decide +kernel
theorem dX3_clear_32 : decode cX3_clear 32 = .ok (.putfield 70, 3) := by decide +kernel
theorem dX3_clear_35 : decode cX3_clear 35 = .ok (.aload_n 0, 1) := by decide +kernel
theorem dX3_clear_36 : decode cX3_clear 36 = .ok (.getfield 56, 3) := by decide +kernel
theorem dX3_clear_39 : decode cX3_clear 39 = .ok (.invokevirtual 73, 3) := by decide +kernel
theorem dX3_clear_42 : decode cX3_clear 42 = .ok (.return_, 1) := by decide +kernel
theorem dX3_addName_0 : decode cX3_addName 0 = .ok (.aload_n 0, 1) := by decide +kernel
theorem dX3_addName_1 : decode cX3_addName 1 = .ok (.getfield 70, 3) := by decide +kernel
theorem dX3_addName_4 : decode cX3_addName 4 = .ok (.aload_n 0, 1) := by decide +kernel
theorem dX3_addName_5 : decode cX3_addName 5 = .ok (.getfield 60, 3) := by decide +kernel
theorem dX3_addName_8 : decode cX3_addName 8 = .ok (.arraylength, 1) := by decide +kernel
theorem dX3_addName_9 : decode cX3_addName 9 = .ok (.if_icmp .ge 44, 3) := by decide +kernel
theorem dX3_addName_12 : decode cX3_addName 12 = .ok (.aload_n 0, 1) := by decide +kernel
theorem dX3_addName_13 : decode cX3_addName 13 = .ok (.getfield 60, 3) := by decide +kernel
theorem dX3_addName_16 : decode cX3_addName 16 = .ok (.aload_n 0, 1) := by decide +kernel
theorem dX3_addName_17 : decode cX3_addName 17 = .ok (.getfield 70, 3) := by decide +kernel
theorem dX3_addName_20 : decode cX3_addName 20 = .ok (.lload_n 1, 1) := by decide +kernel
theorem dX3_addName_21 : decode cX3_addName 21 = .ok (.lastore, 1) := by decide +kernel
theorem dX3_addName_22 : decode cX3_addName 22 = .ok (.aload_n 0, 1) := by decide +kernel
theorem dX3_addName_23 : decode cX3_addName 23 = .ok (.getfield 64, 3) := by decide +kernel
theorem dX3_addName_26 : decode cX3_addName 26 = .ok (.aload_n 0, 1) := by decide +kernel
theorem dX3_addName_27 : decode cX3_addName 27 = .ok (.getfield 70, 3) := by decide +kernel
theorem dX3_addName_30 : decode cX3_addName 30 = .ok (.iload_n 3, 1) := by decide +kernel
theorem dX3_addName_31 : decode cX3_addName 31 = .ok (.iastore, 1) := by decide +kernel
theorem dX3_addName_32 : decode cX3_addName 32 = .ok (.aload_n 0, 1) := by decide +kernel
theorem dX3_addName_33 : decode cX3_addName 33 = .ok (.getfield 67, 3) := by decide +kernel
theorem dX3_addName_36 : decode cX3_addName 36 = .ok (.aload_n 0, 1) := by decide +kernel
theorem dX3_addName_37 : decode cX3_addName 37 = .ok (.getfield 70, 3) := by decide +kernel
theorem dX3_addName_40 : decode cX3_addName 40 = .ok (.iload 4, 2) := by decide +kernel
theorem dX3_addName_42 : decode cX3_addName 42 = .ok (.iastore, 1) := by decide +kernel
theorem dX3_addName_43 : decode cX3_addName 43 = .ok (.aload_n 0, 1) := by decide +kernel
theorem dX3_addName_44 : decode cX3_addName 44 = .ok (.dup, 1) := by decide +kernel
theorem dX3_addName_45 : decode cX3_addName 45 = .ok (.getfield 70, 3) := by decide +kernel
theorem dX3_addName_48 : decode cX3_addName 48 = .ok (.iconst 1, 1) := by decide +kernel
theorem dX3_addName_49 : decode cX3_addName 49 = .ok (.iadd, 1) := by decide +kernel
theorem dX3_addName_50 : decode cX3_addName 50 = .ok (.putfield 70, 3) := by decide +kernel
theorem dX3_addName_53 : decode cX3_addName 53 = .ok (.return_, 1) := by decide +kernel
theorem dX3_rowOfName_0 : decode cX3_rowOfName 0 = .ok (.iconst 0, 1) := by decide +kernel
theorem dX3_rowOfName_1 : decode cX3_rowOfName 1 = .ok (.istore_n 3, 1) := by decide +kernel
theorem dX3_rowOfName_2 : decode cX3_rowOfName 2 = .ok (.iload_n 3, 1) := by decide +kernel
theorem dX3_rowOfName_3 : decode cX3_rowOfName 3 = .ok (.aload_n 0, 1) := by decide +kernel
theorem dX3_rowOfName_4 : decode cX3_rowOfName 4 = .ok (.getfield 70, 3) := by decide +kernel
theorem dX3_rowOfName_7 : decode cX3_rowOfName 7 = .ok (.if_icmp .ge 22, 3) := by decide +kernel
theorem dX3_rowOfName_10 : decode cX3_rowOfName 10 = .ok (.aload_n 0, 1) := by decide +kernel
theorem dX3_rowOfName_11 : decode cX3_rowOfName 11 = .ok (.getfield 60, 3) := by decide +kernel
theorem dX3_rowOfName_14 : decode cX3_rowOfName 14 = .ok (.iload_n 3, 1) := by decide +kernel
theorem dX3_rowOfName_15 : decode cX3_rowOfName 15 = .ok (.laload, 1) := by decide +kernel
theorem dX3_rowOfName_16 : decode cX3_rowOfName 16 = .ok (.lload_n 1, 1) := by decide +kernel
theorem dX3_rowOfName_17 : decode cX3_rowOfName 17 = .ok (.lcmp, 1) := by decide +kernel
theorem dX3_rowOfName_18 : decode cX3_rowOfName 18 = .ok (.ifCond .ne 5, 3) := by decide +kernel
theorem dX3_rowOfName_21 : decode cX3_rowOfName 21 = .ok (.iload_n 3, 1) := by decide +kernel
theorem dX3_rowOfName_22 : decode cX3_rowOfName 22 = .ok (.ireturn, 1) := by decide +kernel
theorem dX3_rowOfName_23 : decode cX3_rowOfName 23 = .ok (.iinc 3 1, 3) := by decide +kernel
theorem dX3_rowOfName_26 : decode cX3_rowOfName 26 = .ok (.goto (-24), 3) := by decide +kernel
theorem dX3_rowOfName_29 : decode cX3_rowOfName 29 = .ok (.iconst (-1), 1) := by decide +kernel
theorem dX3_rowOfName_30 : decode cX3_rowOfName 30 = .ok (.ireturn, 1) := by decide +kernel
theorem dX3_numberOfName_0 : decode cX3_numberOfName 0 = .ok (.aload_n 0, 1) := by decide +kernel
theorem dX3_numberOfName_1 : decode cX3_numberOfName 1 = .ok (.lload_n 1, 1) := by decide +kernel
theorem dX3_numberOfName_2 : decode cX3_numberOfName 2 = .ok (.invokevirtual 76, 3) := by decide +kernel
theorem dX3_numberOfName_5 : decode cX3_numberOfName 5 = .ok (.istore 4, 2) := by decide +kernel
theorem dX3_numberOfName_7 : decode cX3_numberOfName 7 = .ok (.iload 4, 2) := by decide +kernel
theorem dX3_numberOfName_9 : decode cX3_numberOfName 9 = .ok (.iconst (-1), 1) := by decide +kernel
theorem dX3_numberOfName_10 : decode cX3_numberOfName 10 = .ok (.if_icmp .eq 14, 3) := by decide +kernel
theorem dX3_numberOfName_13 : decode cX3_numberOfName 13 = .ok (.aload_n 0, 1) := by decide +kernel
theorem dX3_numberOfName_14 : decode cX3_numberOfName 14 = .ok (.getfield 64, 3) := by decide +kernel
theorem dX3_numberOfName_17 : decode cX3_numberOfName 17 = .ok (.iload 4, 2) := by decide +kernel
theorem dX3_numberOfName_19 : decode cX3_numberOfName 19 = .ok (.iaload, 1) := by decide +kernel
theorem dX3_numberOfName_20 : decode cX3_numberOfName 20 = .ok (.iload_n 3, 1) := by decide +kernel
theorem dX3_numberOfName_21 : decode cX3_numberOfName 21 = .ok (.if_icmp .eq 5, 3) := by decide +kernel
theorem dX3_numberOfName_24 : decode cX3_numberOfName 24 = .ok (.iconst (-1), 1) := by decide +kernel
theorem dX3_numberOfName_25 : decode cX3_numberOfName 25 = .ok (.ireturn, 1) := by decide +kernel
theorem dX3_numberOfName_26 : decode cX3_numberOfName 26 = .ok (.aload_n 0, 1) := by decide +kernel
theorem dX3_numberOfName_27 : decode cX3_numberOfName 27 = .ok (.getfield 67, 3) := by decide +kernel
theorem dX3_numberOfName_30 : decode cX3_numberOfName 30 = .ok (.iload 4, 2) := by decide +kernel
theorem dX3_numberOfName_32 : decode cX3_numberOfName 32 = .ok (.iaload, 1) := by decide +kernel
theorem dX3_numberOfName_33 : decode cX3_numberOfName 33 = .ok (.ireturn, 1) := by decide +kernel
theorem dX4_init_0 : decode cX4_init 0 = .ok (.aload_n 0, 1) := by decide +kernel
theorem dX4_init_1 : decode cX4_init 1 = .ok (.invokespecial 3, 3) := by decide +kernel
theorem dX4_init_4 : decode cX4_init 4 = .ok (.aload_n 0, 1) := by decide +kernel
theorem dX4_init_5 : decode cX4_init 5 = .ok (.sipush 416, 3) := by decide +kernel
theorem dX4_init_8 : decode cX4_init 8 = .ok (.newarray .int, 2) := by decide +kernel
theorem dX4_init_10 : decode cX4_init 10 = .ok (.putfield 9, 3) := by decide +kernel
theorem dX4_init_13 : decode cX4_init 13 = .ok (.aload_n 0, 1) := by decide +kernel
theorem dX4_init_14 : decode cX4_init 14 = .ok (.sipush 416, 3) := by decide +kernel
theorem dX4_init_17 : decode cX4_init 17 = .ok (.newarray .int, 2) := by decide +kernel
theorem dX4_init_19 : decode cX4_init 19 = .ok (.putfield 15, 3) := by decide +kernel
theorem dX4_init_22 : decode cX4_init 22 = .ok (.aload_n 0, 1) := by decide +kernel
theorem dX4_init_23 : decode cX4_init 23 = .ok (.iconst 0, 1) := by decide +kernel
theorem dX4_init_24 : decode cX4_init 24 = .ok (.putfield 18, 3) := by decide +kernel
theorem dX4_init_27 : decode cX4_init 27 = .ok (.aload_n 0, 1) := by decide +kernel
theorem dX4_init_28 : decode cX4_init 28 = .ok (.iconst 4, 1) := by decide +kernel
theorem dX4_init_29 : decode cX4_init 29 = .ok (.newarray .int, 2) := by decide +kernel
theorem dX4_init_31 : decode cX4_init 31 = .ok (.putfield 22, 3) := by decide +kernel
theorem dX4_init_34 : decode cX4_init 34 = .ok (.aload_n 0, 1) := by decide +kernel
theorem dX4_init_35 : decode cX4_init 35 = .ok (.bipush 28, 2) := by decide +kernel
theorem dX4_init_37 : decode cX4_init 37 = .ok (.newarray .int, 2) := by decide +kernel
theorem dX4_init_39 : decode cX4_init 39 = .ok (.putfield 25, 3) := by decide +kernel
theorem dX4_init_42 : decode cX4_init 42 = .ok (.return_, 1) := by decide +kernel
theorem dX4_clear_0 : decode cX4_clear 0 = .ok (.aload_n 0, 1) := by decide +kernel
theorem dX4_clear_1 : decode cX4_clear 1 = .ok (.iconst 0, 1) := by decide +kernel
theorem dX4_clear_2 : decode cX4_clear 2 = .ok (.putfield 18, 3) := by decide +kernel
theorem dX4_clear_5 : decode cX4_clear 5 = .ok (.aload_n 0, 1) := by decide +kernel
theorem dX4_clear_6 : decode cX4_clear 6 = .ok (.iconst 0, 1) := by decide +kernel
theorem dX4_clear_7 : decode cX4_clear 7 = .ok (.invokevirtual 28, 3) := by decide +kernel
theorem dX4_clear_10 : decode cX4_clear 10 = .ok (.aload_n 0, 1) := by decide +kernel
theorem dX4_clear_11 : decode cX4_clear 11 = .ok (.iconst 1, 1) := by decide +kernel
theorem dX4_clear_12 : decode cX4_clear 12 = .ok (.iconst 1, 1) := by decide +kernel
theorem dX4_clear_13 : decode cX4_clear 13 = .ok (.invokevirtual 32, 3) := by decide +kernel
theorem dX4_clear_16 : decode cX4_clear 16 = .ok (.pop, 1) := by decide +kernel
theorem dX4_clear_17 : decode cX4_clear 17 = .ok (.aload_n 0, 1) := by decide +kernel
theorem dX4_clear_18 : decode cX4_clear 18 = .ok (.iconst 1, 1) := by decide +kernel
theorem dX4_clear_19 : decode cX4_clear 19 = .ok (.iconst 2, 1) := by decide +kernel
theorem dX4_clear_20 : decode cX4_clear 20 = .ok (.invokevirtual 32, 3) := by decide +kernel
theorem dX4_clear_23 : decode cX4_clear 23 = .ok (.pop, 1) := by decide +kernel
theorem dX4_clear_24 : decode cX4_clear 24 = .ok (.aload_n 0, 1) := by decide +kernel
theorem dX4_clear_25 : decode cX4_clear 25 = .ok (.bipush 7, 2) := by decide +kernel
theorem dX4_clear_27 : decode cX4_clear 27 = .ok (.iconst 0, 1) := by decide +kernel
theorem dX4_clear_28 : decode cX4_clear 28 = .ok (.invokevirtual 32, 3) := by decide +kernel
theorem dX4_clear_31 : decode cX4_clear 31 = .ok (.pop, 1) := by decide +kernel
theorem dX4_clear_32 : decode cX4_clear 32 = .ok (.aload_n 0, 1) := by decide +kernel
theorem dX4_clear_33 : decode cX4_clear 33 = .ok (.iconst 3, 1) := by decide +kernel
theorem dX4_clear_34 : decode cX4_clear 34 = .ok (.iconst 0, 1) := by decide +kernel
theorem dX4_clear_35 : decode cX4_clear 35 = .ok (.invokevirtual 32, 3) := by decide +kernel
theorem dX4_clear_38 : decode cX4_clear 38 = .ok (.pop, 1) := by decide +kernel
theorem dX4_clear_39 : decode cX4_clear 39 = .ok (.aload_n 0, 1) := by decide +kernel
theorem dX4_clear_40 : decode cX4_clear 40 = .ok (.iconst 1, 1) := by decide +kernel
theorem dX4_clear_41 : decode cX4_clear 41 = .ok (.invokevirtual 28, 3) := by decide +kernel
theorem dX4_clear_44 : decode cX4_clear 44 = .ok (.aload_n 0, 1) := by decide +kernel
theorem dX4_clear_45 : decode cX4_clear 45 = .ok (.iconst 0, 1) := by decide +kernel
theorem dX4_clear_46 : decode cX4_clear 46 = .ok (.iconst 0, 1) := by decide +kernel
theorem dX4_clear_47 : decode cX4_clear 47 = .ok (.invokevirtual 32, 3) := by decide +kernel
theorem dX4_clear_50 : decode cX4_clear 50 = .ok (.pop, 1) := by decide +kernel
theorem dX4_clear_51 : decode cX4_clear 51 = .ok (.aload_n 0, 1) := by decide +kernel
theorem dX4_clear_52 : decode cX4_clear 52 = .ok (.iconst 3, 1) := by decide +kernel
theorem dX4_clear_53 : decode cX4_clear 53 = .ok (.iconst 0, 1) := by decide +kernel
theorem dX4_clear_54 : decode cX4_clear 54 = .ok (.invokevirtual 32, 3) := by decide +kernel
theorem dX4_clear_57 : decode cX4_clear 57 = .ok (.pop, 1) := by decide +kernel
theorem dX4_clear_58 : decode cX4_clear 58 = .ok (.aload_n 0, 1) := by decide +kernel
theorem dX4_clear_59 : decode cX4_clear 59 = .ok (.iconst 2, 1) := by decide +kernel
theorem dX4_clear_60 : decode cX4_clear 60 = .ok (.invokevirtual 28, 3) := by decide +kernel
theorem dX4_clear_63 : decode cX4_clear 63 = .ok (.aload_n 0, 1) := by decide +kernel
theorem dX4_clear_64 : decode cX4_clear 64 = .ok (.iconst 1, 1) := by decide +kernel
theorem dX4_clear_65 : decode cX4_clear 65 = .ok (.bipush 6, 2) := by decide +kernel
theorem dX4_clear_67 : decode cX4_clear 67 = .ok (.invokevirtual 32, 3) := by decide +kernel
theorem dX4_clear_70 : decode cX4_clear 70 = .ok (.pop, 1) := by decide +kernel
theorem dX4_clear_71 : decode cX4_clear 71 = .ok (.aload_n 0, 1) := by decide +kernel
theorem dX4_clear_72 : decode cX4_clear 72 = .ok (.iconst 3, 1) := by decide +kernel
theorem dX4_clear_73 : decode cX4_clear 73 = .ok (.iconst 0, 1) := by decide +kernel
theorem dX4_clear_74 : decode cX4_clear 74 = .ok (.invokevirtual 32, 3) := by decide +kernel
theorem dX4_clear_77 : decode cX4_clear 77 = .ok (.pop, 1) := by decide +kernel
theorem dX4_clear_78 : decode cX4_clear 78 = .ok (.aload_n 0, 1) := by decide +kernel
theorem dX4_clear_79 : decode cX4_clear 79 = .ok (.iconst 3, 1) := by decide +kernel
theorem dX4_clear_80 : decode cX4_clear 80 = .ok (.invokevirtual 28, 3) := by decide +kernel
theorem dX4_clear_83 : decode cX4_clear 83 = .ok (.aload_n 0, 1) := by decide +kernel
theorem dX4_clear_84 : decode cX4_clear 84 = .ok (.iconst 0, 1) := by decide +kernel
theorem dX4_clear_85 : decode cX4_clear 85 = .ok (.iconst 1, 1) := by decide +kernel
theorem dX4_clear_86 : decode cX4_clear 86 = .ok (.invokevirtual 32, 3) := by decide +kernel
theorem dX4_clear_89 : decode cX4_clear 89 = .ok (.pop, 1) := by decide +kernel
theorem dX4_clear_90 : decode cX4_clear 90 = .ok (.aload_n 0, 1) := by decide +kernel
theorem dX4_clear_91 : decode cX4_clear 91 = .ok (.iconst 3, 1) := by decide +kernel
theorem dX4_clear_92 : decode cX4_clear 92 = .ok (.iconst 0, 1) := by decide +kernel
theorem dX4_clear_93 : decode cX4_clear 93 = .ok (.invokevirtual 32, 3) := by decide +kernel
theorem dX4_clear_96 : decode cX4_clear 96 = .ok (.pop, 1) := by decide +kernel
theorem dX4_clear_97 : decode cX4_clear 97 = .ok (.return_, 1) := by decide +kernel
theorem dX4_begin_0 : decode cX4_begin 0 = .ok (.iload_n 1, 1) := by decide +kernel
theorem dX4_begin_1 : decode cX4_begin 1 = .ok (.ifCond .lt 22, 3) := by decide +kernel
theorem dX4_begin_4 : decode cX4_begin 4 = .ok (.iload_n 1, 1) := by decide +kernel
theorem dX4_begin_5 : decode cX4_begin 5 = .ok (.aload_n 0, 1) := by decide +kernel
theorem dX4_begin_6 : decode cX4_begin 6 = .ok (.getfield 22, 3) := by decide +kernel
theorem dX4_begin_9 : decode cX4_begin 9 = .ok (.arraylength, 1) := by decide +kernel
theorem dX4_begin_10 : decode cX4_begin 10 = .ok (.if_icmp .ge 13, 3) := by decide +kernel
theorem dX4_begin_13 : decode cX4_begin 13 = .ok (.aload_n 0, 1) := by decide +kernel
theorem dX4_begin_14 : decode cX4_begin 14 = .ok (.getfield 22, 3) := by decide +kernel
theorem dX4_begin_17 : decode cX4_begin 17 = .ok (.iload_n 1, 1) := by decide +kernel
theorem dX4_begin_18 : decode cX4_begin 18 = .ok (.aload_n 0, 1) := by decide +kernel
theorem dX4_begin_19 : decode cX4_begin 19 = .ok (.getfield 18, 3) := by decide +kernel
theorem dX4_begin_22 : decode cX4_begin 22 = .ok (.iastore, 1) := by decide +kernel
theorem dX4_begin_23 : decode cX4_begin 23 = .ok (.return_, 1) := by decide +kernel
theorem dX4_put_0 : decode cX4_put 0 = .ok (.aload_n 0, 1) := by decide +kernel
theorem dX4_put_1 : decode cX4_put 1 = .ok (.getfield 18, 3) := by decide +kernel
theorem dX4_put_4 : decode cX4_put 4 = .ok (.istore_n 3, 1) := by decide +kernel
theorem dX4_put_5 : decode cX4_put 5 = .ok (.iload_n 3, 1) := by decide +kernel
theorem dX4_put_6 : decode cX4_put 6 = .ok (.aload_n 0, 1) := by decide +kernel
theorem dX4_put_7 : decode cX4_put 7 = .ok (.getfield 9, 3) := by decide +kernel
theorem dX4_put_10 : decode cX4_put 10 = .ok (.arraylength, 1) := by decide +kernel
theorem dX4_put_11 : decode cX4_put 11 = .ok (.if_icmp .ge 27, 3) := by decide +kernel
theorem dX4_put_14 : decode cX4_put 14 = .ok (.aload_n 0, 1) := by decide +kernel
theorem dX4_put_15 : decode cX4_put 15 = .ok (.getfield 9, 3) := by decide +kernel
theorem dX4_put_18 : decode cX4_put 18 = .ok (.iload_n 3, 1) := by decide +kernel
theorem dX4_put_19 : decode cX4_put 19 = .ok (.iload_n 1, 1) := by decide +kernel
theorem dX4_put_20 : decode cX4_put 20 = .ok (.iastore, 1) := by decide +kernel
theorem dX4_put_21 : decode cX4_put 21 = .ok (.aload_n 0, 1) := by decide +kernel
theorem dX4_put_22 : decode cX4_put 22 = .ok (.getfield 15, 3) := by decide +kernel
theorem dX4_put_25 : decode cX4_put 25 = .ok (.iload_n 3, 1) := by decide +kernel
theorem dX4_put_26 : decode cX4_put 26 = .ok (.iload_n 2, 1) := by decide +kernel
theorem dX4_put_27 : decode cX4_put 27 = .ok (.iastore, 1) := by decide +kernel
theorem dX4_put_28 : decode cX4_put 28 = .ok (.aload_n 0, 1) := by decide +kernel
theorem dX4_put_29 : decode cX4_put 29 = .ok (.dup, 1) := by decide +kernel
theorem dX4_put_30 : decode cX4_put 30 = .ok (.getfield 18, 3) := by decide +kernel
theorem dX4_put_33 : decode cX4_put 33 = .ok (.iconst 1, 1) := by decide +kernel
theorem dX4_put_34 : decode cX4_put 34 = .ok (.iadd, 1) := by decide +kernel
theorem dX4_put_35 : decode cX4_put 35 = .ok (.putfield 18, 3) := by decide +kernel
theorem dX4_put_38 : decode cX4_put 38 = .ok (.iload_n 3, 1) := by decide +kernel
theorem dX4_put_39 : decode cX4_put 39 = .ok (.ireturn, 1) := by decide +kernel
theorem dX4_leapToHere_0 : decode cX4_leapToHere 0 = .ok (.iload_n 1, 1) := by decide +kernel
theorem dX4_leapToHere_1 : decode cX4_leapToHere 1 = .ok (.ifCond .lt 22, 3) := by decide +kernel
theorem dX4_leapToHere_4 : decode cX4_leapToHere 4 = .ok (.iload_n 1, 1) := by decide +kernel
theorem dX4_leapToHere_5 : decode cX4_leapToHere 5 = .ok (.aload_n 0, 1) := by decide +kernel
theorem dX4_leapToHere_6 : decode cX4_leapToHere 6 = .ok (.getfield 15, 3) := by decide +kernel
theorem dX4_leapToHere_9 : decode cX4_leapToHere 9 = .ok (.arraylength, 1) := by decide +kernel
theorem dX4_leapToHere_10 : decode cX4_leapToHere 10 = .ok (.if_icmp .ge 13, 3) := by decide +kernel
theorem dX4_leapToHere_13 : decode cX4_leapToHere 13 = .ok (.aload_n 0, 1) := by decide +kernel
theorem dX4_leapToHere_14 : decode cX4_leapToHere 14 = .ok (.getfield 15, 3) := by decide +kernel
theorem dX4_leapToHere_17 : decode cX4_leapToHere 17 = .ok (.iload_n 1, 1) := by decide +kernel
theorem dX4_leapToHere_18 : decode cX4_leapToHere 18 = .ok (.aload_n 0, 1) := by decide +kernel
theorem dX4_leapToHere_19 : decode cX4_leapToHere 19 = .ok (.getfield 18, 3) := by decide +kernel
theorem dX4_leapToHere_22 : decode cX4_leapToHere 22 = .ok (.iastore, 1) := by decide +kernel
theorem dX4_leapToHere_23 : decode cX4_leapToHere 23 = .ok (.return_, 1) := by decide +kernel
theorem dX4_answer_0 : decode cX4_answer 0 = .ok (.aload_n 0, 1) := by decide +kernel
theorem dX4_answer_1 : decode cX4_answer 1 = .ok (.getfield 22, 3) := by decide +kernel
theorem dX4_answer_4 : decode cX4_answer 4 = .ok (.iload_n 1, 1) := by decide +kernel
theorem dX4_answer_5 : decode cX4_answer 5 = .ok (.iaload, 1) := by decide +kernel
theorem dX4_answer_6 : decode cX4_answer 6 = .ok (.istore_n 3, 1) := by decide +kernel
theorem dX4_answer_7 : decode cX4_answer 7 = .ok (.iconst 0, 1) := by decide +kernel
theorem dX4_answer_8 : decode cX4_answer 8 = .ok (.istore 4, 2) := by decide +kernel
theorem dX4_answer_10 : decode cX4_answer 10 = .ok (.iconst 0, 1) := by decide +kernel
theorem dX4_answer_11 : decode cX4_answer 11 = .ok (.istore 5, 2) := by decide +kernel
theorem dX4_answer_13 : decode cX4_answer 13 = .ok (.iload 5, 2) := by decide +kernel
theorem dX4_answer_15 : decode cX4_answer 15 = .ok (.aload_n 0, 1) := by decide +kernel
theorem dX4_answer_16 : decode cX4_answer 16 = .ok (.getfield 18, 3) := by decide +kernel
theorem dX4_answer_19 : decode cX4_answer 19 = .ok (.if_icmp .ge 291, 3) := by decide +kernel
theorem dX4_answer_22 : decode cX4_answer 22 = .ok (.iload_n 3, 1) := by decide +kernel
theorem dX4_answer_23 : decode cX4_answer 23 = .ok (.aload_n 0, 1) := by decide +kernel
theorem dX4_answer_24 : decode cX4_answer 24 = .ok (.getfield 18, 3) := by decide +kernel
theorem dX4_answer_27 : decode cX4_answer 27 = .ok (.if_icmp .ge 283, 3) := by decide +kernel
theorem dX4_answer_30 : decode cX4_answer 30 = .ok (.aload_n 0, 1) := by decide +kernel
theorem dX4_answer_31 : decode cX4_answer 31 = .ok (.getfield 9, 3) := by decide +kernel
theorem dX4_answer_34 : decode cX4_answer 34 = .ok (.iload_n 3, 1) := by decide +kernel
theorem dX4_answer_35 : decode cX4_answer 35 = .ok (.iaload, 1) := by decide +kernel
theorem dX4_answer_36 : decode cX4_answer 36 = .ok (.istore 6, 2) := by decide +kernel
theorem dX4_answer_38 : decode cX4_answer 38 = .ok (.aload_n 0, 1) := by decide +kernel
theorem dX4_answer_39 : decode cX4_answer 39 = .ok (.getfield 15, 3) := by decide +kernel
theorem dX4_answer_42 : decode cX4_answer 42 = .ok (.iload_n 3, 1) := by decide +kernel
theorem dX4_answer_43 : decode cX4_answer 43 = .ok (.iaload, 1) := by decide +kernel
theorem dX4_answer_44 : decode cX4_answer 44 = .ok (.istore 7, 2) := by decide +kernel
theorem dX4_answer_46 : decode cX4_answer 46 = .ok (.iinc 3 1, 3) := by decide +kernel
theorem dX4_answer_49 : decode cX4_answer 49 = .ok (.iload 6, 2) := by decide +kernel
theorem dX4_answer_51 : decode cX4_answer 51 = .ok (.ifCond .eq 9, 3) := by decide +kernel
theorem dX4_answer_54 : decode cX4_answer 54 = .ok (.iload 6, 2) := by decide +kernel
theorem dX4_answer_56 : decode cX4_answer 56 = .ok (.iconst 1, 1) := by decide +kernel
theorem dX4_answer_57 : decode cX4_answer 57 = .ok (.if_icmp .ne 55, 3) := by decide +kernel
theorem dX4_answer_60 : decode cX4_answer 60 = .ok (.iload 4, 2) := by decide +kernel
theorem dX4_answer_62 : decode cX4_answer 62 = .ok (.aload_n 0, 1) := by decide +kernel
theorem dX4_answer_63 : decode cX4_answer 63 = .ok (.getfield 25, 3) := by decide +kernel
theorem dX4_answer_66 : decode cX4_answer 66 = .ok (.arraylength, 1) := by decide +kernel
theorem dX4_answer_67 : decode cX4_answer 67 = .ok (.if_icmp .ge 16, 3) := by decide +kernel
theorem dX4_answer_70 : decode cX4_answer 70 = .ok (.iload 6, 2) := by decide +kernel
theorem dX4_answer_72 : decode cX4_answer 72 = .ok (.iconst 1, 1) := by decide +kernel
theorem dX4_answer_73 : decode cX4_answer 73 = .ok (.if_icmp .ne 12, 3) := by decide +kernel
theorem dX4_answer_76 : decode cX4_answer 76 = .ok (.iload 7, 2) := by decide +kernel
theorem dX4_answer_78 : decode cX4_answer 78 = .ok (.aload_n 2, 1) := by decide +kernel
theorem dX4_answer_79 : decode cX4_answer 79 = .ok (.arraylength, 1) := by decide +kernel
theorem dX4_answer_80 : decode cX4_answer 80 = .ok (.if_icmp .lt 5, 3) := by decide +kernel
theorem dX4_answer_83 : decode cX4_answer 83 = .ok (.iconst 0, 1) := by decide +kernel
theorem dX4_answer_84 : decode cX4_answer 84 = .ok (.ireturn, 1) := by decide +kernel
theorem dX4_answer_85 : decode cX4_answer 85 = .ok (.aload_n 0, 1) := by decide +kernel
theorem dX4_answer_86 : decode cX4_answer 86 = .ok (.getfield 25, 3) := by decide +kernel
theorem dX4_answer_89 : decode cX4_answer 89 = .ok (.iload 4, 2) := by decide +kernel
theorem dX4_answer_91 : decode cX4_answer 91 = .ok (.iload 6, 2) := by decide +kernel
theorem dX4_answer_93 : decode cX4_answer 93 = .ok (.ifCond .ne 8, 3) := by decide +kernel
theorem dX4_answer_96 : decode cX4_answer 96 = .ok (.iload 7, 2) := by decide +kernel
theorem dX4_answer_98 : decode cX4_answer 98 = .ok (.goto 7, 3) := by decide +kernel
theorem dX4_answer_101 : decode cX4_answer 101 = .ok (.aload_n 2, 1) := by decide +kernel
theorem dX4_answer_102 : decode cX4_answer 102 = .ok (.iload 7, 2) := by decide +kernel
theorem dX4_answer_104 : decode cX4_answer 104 = .ok (.iaload, 1) := by decide +kernel
theorem dX4_answer_105 : decode cX4_answer 105 = .ok (.iastore, 1) := by decide +kernel
theorem dX4_answer_106 : decode cX4_answer 106 = .ok (.iinc 4 1, 3) := by decide +kernel
theorem dX4_answer_109 : decode cX4_answer 109 = .ok (.goto 195, 3) := by decide +kernel
theorem dX4_answer_112 : decode cX4_answer 112 = .ok (.iload 6, 2) := by decide +kernel
theorem dX4_answer_114 : decode cX4_answer 114 = .ok (.iconst 3, 1) := by decide +kernel
theorem dX4_answer_115 : decode cX4_answer 115 = .ok (.if_icmp .ne 22, 3) := by decide +kernel
theorem dX4_answer_118 : decode cX4_answer 118 = .ok (.iload 4, 2) := by decide +kernel
theorem dX4_answer_120 : decode cX4_answer 120 = .ok (.ifCond .le 15, 3) := by decide +kernel
theorem dX4_answer_123 : decode cX4_answer 123 = .ok (.aload_n 0, 1) := by decide +kernel
theorem dX4_answer_124 : decode cX4_answer 124 = .ok (.getfield 25, 3) := by decide +kernel
theorem dX4_answer_127 : decode cX4_answer 127 = .ok (.iload 4, 2) := by decide +kernel
theorem dX4_answer_129 : decode cX4_answer 129 = .ok (.iconst 1, 1) := by decide +kernel
theorem dX4_answer_130 : decode cX4_answer 130 = .ok (.isub, 1) := by decide +kernel
theorem dX4_answer_131 : decode cX4_answer 131 = .ok (.iaload, 1) := by decide +kernel
theorem dX4_answer_132 : decode cX4_answer 132 = .ok (.goto 4, 3) := by decide +kernel
theorem dX4_answer_135 : decode cX4_answer 135 = .ok (.iconst 0, 1) := by decide +kernel
theorem dX4_answer_136 : decode cX4_answer 136 = .ok (.ireturn, 1) := by decide +kernel
theorem dX4_answer_137 : decode cX4_answer 137 = .ok (.iload 4, 2) := by decide +kernel
theorem dX4_answer_139 : decode cX4_answer 139 = .ok (.iconst 2, 1) := by decide +kernel
theorem dX4_answer_140 : decode cX4_answer 140 = .ok (.if_icmp .ge 5, 3) := by decide +kernel
theorem dX4_answer_143 : decode cX4_answer 143 = .ok (.iconst 0, 1) := by decide +kernel
theorem dX4_answer_144 : decode cX4_answer 144 = .ok (.ireturn, 1) := by decide +kernel
theorem dX4_answer_145 : decode cX4_answer 145 = .ok (.iinc 4 (-1), 3) := by decide +kernel
theorem dX4_answer_148 : decode cX4_answer 148 = .ok (.aload_n 0, 1) := by decide +kernel
theorem dX4_answer_149 : decode cX4_answer 149 = .ok (.getfield 25, 3) := by decide +kernel
theorem dX4_answer_152 : decode cX4_answer 152 = .ok (.iload 4, 2) := by decide +kernel
theorem dX4_answer_154 : decode cX4_answer 154 = .ok (.iaload, 1) := by decide +kernel
theorem dX4_answer_155 : decode cX4_answer 155 = .ok (.istore 8, 2) := by decide +kernel
theorem dX4_answer_157 : decode cX4_answer 157 = .ok (.aload_n 0, 1) := by decide +kernel
theorem dX4_answer_158 : decode cX4_answer 158 = .ok (.getfield 25, 3) := by decide +kernel
theorem dX4_answer_161 : decode cX4_answer 161 = .ok (.iload 4, 2) := by decide +kernel
theorem dX4_answer_163 : decode cX4_answer 163 = .ok (.iconst 1, 1) := by decide +kernel
theorem dX4_answer_164 : decode cX4_answer 164 = .ok (.isub, 1) := by decide +kernel
theorem dX4_answer_165 : decode cX4_answer 165 = .ok (.iaload, 1) := by decide +kernel
theorem dX4_answer_166 : decode cX4_answer 166 = .ok (.istore 9, 2) := by decide +kernel
theorem dX4_answer_168 : decode cX4_answer 168 = .ok (.iload 6, 2) := by decide +kernel
theorem dX4_answer_170 : decode cX4_answer 170 = .ok (.tableswitch 113 2 8 #[42, 113, 113, 113, 62, 79, 96], 42) := by decide +kernel
theorem dX4_answer_212 : decode cX4_answer 212 = .ok (.iinc 4 (-1), 3) := by decide +kernel
theorem dX4_answer_215 : decode cX4_answer 215 = .ok (.iload 9, 2) := by decide +kernel
theorem dX4_answer_217 : decode cX4_answer 217 = .ok (.iload 8, 2) := by decide +kernel
theorem dX4_answer_219 : decode cX4_answer 219 = .ok (.if_icmp .ge 7, 3) := by decide +kernel
theorem dX4_answer_222 : decode cX4_answer 222 = .ok (.iload_n 3, 1) := by decide +kernel
theorem dX4_answer_223 : decode cX4_answer 223 = .ok (.goto 5, 3) := by decide +kernel
theorem dX4_answer_226 : decode cX4_answer 226 = .ok (.iload 7, 2) := by decide +kernel
theorem dX4_answer_228 : decode cX4_answer 228 = .ok (.istore_n 3, 1) := by decide +kernel
theorem dX4_answer_229 : decode cX4_answer 229 = .ok (.goto 75, 3) := by decide +kernel
theorem dX4_answer_232 : decode cX4_answer 232 = .ok (.aload_n 0, 1) := by decide +kernel
theorem dX4_answer_233 : decode cX4_answer 233 = .ok (.getfield 25, 3) := by decide +kernel
theorem dX4_answer_236 : decode cX4_answer 236 = .ok (.iload 4, 2) := by decide +kernel
theorem dX4_answer_238 : decode cX4_answer 238 = .ok (.iconst 1, 1) := by decide +kernel
theorem dX4_answer_239 : decode cX4_answer 239 = .ok (.isub, 1) := by decide +kernel
theorem dX4_answer_240 : decode cX4_answer 240 = .ok (.iload 9, 2) := by decide +kernel
theorem dX4_answer_242 : decode cX4_answer 242 = .ok (.iload 8, 2) := by decide +kernel
theorem dX4_answer_244 : decode cX4_answer 244 = .ok (.iadd, 1) := by decide +kernel
theorem dX4_answer_245 : decode cX4_answer 245 = .ok (.iastore, 1) := by decide +kernel
theorem dX4_answer_246 : decode cX4_answer 246 = .ok (.goto 58, 3) := by decide +kernel
theorem dX4_answer_249 : decode cX4_answer 249 = .ok (.aload_n 0, 1) := by decide +kernel
theorem dX4_answer_250 : decode cX4_answer 250 = .ok (.getfield 25, 3) := by decide +kernel
theorem dX4_answer_253 : decode cX4_answer 253 = .ok (.iload 4, 2) := by decide +kernel
theorem dX4_answer_255 : decode cX4_answer 255 = .ok (.iconst 1, 1) := by decide +kernel
theorem dX4_answer_256 : decode cX4_answer 256 = .ok (.isub, 1) := by decide +kernel
theorem dX4_answer_257 : decode cX4_answer 257 = .ok (.iload 9, 2) := by decide +kernel
theorem dX4_answer_259 : decode cX4_answer 259 = .ok (.iload 8, 2) := by decide +kernel
theorem dX4_answer_261 : decode cX4_answer 261 = .ok (.isub, 1) := by decide +kernel
theorem dX4_answer_262 : decode cX4_answer 262 = .ok (.iastore, 1) := by decide +kernel
theorem dX4_answer_263 : decode cX4_answer 263 = .ok (.goto 41, 3) := by decide +kernel
theorem dX4_answer_266 : decode cX4_answer 266 = .ok (.aload_n 0, 1) := by decide +kernel
theorem dX4_answer_267 : decode cX4_answer 267 = .ok (.getfield 25, 3) := by decide +kernel
theorem dX4_answer_270 : decode cX4_answer 270 = .ok (.iload 4, 2) := by decide +kernel
theorem dX4_answer_272 : decode cX4_answer 272 = .ok (.iconst 1, 1) := by decide +kernel
theorem dX4_answer_273 : decode cX4_answer 273 = .ok (.isub, 1) := by decide +kernel
theorem dX4_answer_274 : decode cX4_answer 274 = .ok (.iload 9, 2) := by decide +kernel
theorem dX4_answer_276 : decode cX4_answer 276 = .ok (.iload 8, 2) := by decide +kernel
theorem dX4_answer_278 : decode cX4_answer 278 = .ok (.imul, 1) := by decide +kernel
theorem dX4_answer_279 : decode cX4_answer 279 = .ok (.iastore, 1) := by decide +kernel
theorem dX4_answer_280 : decode cX4_answer 280 = .ok (.goto 24, 3) := by decide +kernel
theorem dX4_answer_283 : decode cX4_answer 283 = .ok (.iload 8, 2) := by decide +kernel
theorem dX4_answer_285 : decode cX4_answer 285 = .ok (.ifCond .ne 5, 3) := by decide +kernel
theorem dX4_answer_288 : decode cX4_answer 288 = .ok (.iconst 0, 1) := by decide +kernel
theorem dX4_answer_289 : decode cX4_answer 289 = .ok (.ireturn, 1) := by decide +kernel
theorem dX4_answer_290 : decode cX4_answer 290 = .ok (.aload_n 0, 1) := by decide +kernel
theorem dX4_answer_291 : decode cX4_answer 291 = .ok (.getfield 25, 3) := by decide +kernel
theorem dX4_answer_294 : decode cX4_answer 294 = .ok (.iload 4, 2) := by decide +kernel
theorem dX4_answer_296 : decode cX4_answer 296 = .ok (.iconst 1, 1) := by decide +kernel
theorem dX4_answer_297 : decode cX4_answer 297 = .ok (.isub, 1) := by decide +kernel
theorem dX4_answer_298 : decode cX4_answer 298 = .ok (.iload 9, 2) := by decide +kernel
theorem dX4_answer_300 : decode cX4_answer 300 = .ok (.iload 8, 2) := by decide +kernel
theorem dX4_answer_302 : decode cX4_answer 302 = .ok (.idiv, 1) := by decide +kernel
theorem dX4_answer_303 : decode cX4_answer 303 = .ok (.iastore, 1) := by decide +kernel
theorem dX4_answer_304 : decode cX4_answer 304 = .ok (.iinc 5 1, 3) := by decide +kernel
theorem dX4_answer_307 : decode cX4_answer 307 = .ok (.goto (-294), 3) := by decide +kernel
theorem dX4_answer_310 : decode cX4_answer 310 = .ok (.iconst 0, 1) := by decide +kernel
theorem dX4_answer_311 : decode cX4_answer 311 = .ok (.ireturn, 1) := by decide +kernel
theorem dX5_init_0 : decode cX5_init 0 = .ok (.aload_n 0, 1) := by decide +kernel
theorem dX5_init_1 : decode cX5_init 1 = .ok (.invokespecial 3, 3) := by decide +kernel
theorem dX5_init_4 : decode cX5_init 4 = .ok (.aload_n 0, 1) := by decide +kernel
theorem dX5_init_5 : decode cX5_init 5 = .ok (.iconst 0, 1) := by decide +kernel
theorem dX5_init_6 : decode cX5_init 6 = .ok (.putfield 9, 3) := by decide +kernel
theorem dX5_init_9 : decode cX5_init 9 = .ok (.aload_n 0, 1) := by decide +kernel
theorem dX5_init_10 : decode cX5_init 10 = .ok (.iconst 0, 1) := by decide +kernel
theorem dX5_init_11 : decode cX5_init 11 = .ok (.putfield 15, 3) := by decide +kernel
theorem dX5_init_14 : decode cX5_init 14 = .ok (.aload_n 0, 1) := by decide +kernel
theorem dX5_init_15 : decode cX5_init 15 = .ok (.iconst 0, 1) := by decide +kernel
theorem dX5_init_16 : decode cX5_init 16 = .ok (.putfield 18, 3) := by decide +kernel
theorem dX5_init_19 : decode cX5_init 19 = .ok (.aload_n 0, 1) := by decide +kernel
theorem dX5_init_20 : decode cX5_init 20 = .ok (.iconst 0, 1) := by decide +kernel
theorem dX5_init_21 : decode cX5_init 21 = .ok (.putfield 21, 3) := by decide +kernel
theorem dX5_init_24 : decode cX5_init 24 = .ok (.aload_n 0, 1) := by decide +kernel
theorem dX5_init_25 : decode cX5_init 25 = .ok (.bipush 7, 2) := by decide +kernel
theorem dX5_init_27 : decode cX5_init 27 = .ok (.newarray .int, 2) := by decide +kernel
theorem dX5_init_29 : decode cX5_init 29 = .ok (.putfield 24, 3) := by decide +kernel
theorem dX5_init_32 : decode cX5_init 32 = .ok (.return_, 1) := by decide +kernel
theorem dX5_begin_0 : decode cX5_begin 0 = .ok (.aload_n 0, 1) := by decide +kernel
theorem dX5_begin_1 : decode cX5_begin 1 = .ok (.iconst 0, 1) := by decide +kernel
theorem dX5_begin_2 : decode cX5_begin 2 = .ok (.putfield 9, 3) := by decide +kernel
theorem dX5_begin_5 : decode cX5_begin 5 = .ok (.aload_n 0, 1) := by decide +kernel
theorem dX5_begin_6 : decode cX5_begin 6 = .ok (.iconst 1, 1) := by decide +kernel
theorem dX5_begin_7 : decode cX5_begin 7 = .ok (.aload_n 1, 1) := by decide +kernel
theorem dX5_begin_8 : decode cX5_begin 8 = .ok (.getfield 28, 3) := by decide +kernel
theorem dX5_begin_11 : decode cX5_begin 11 = .ok (.ishl, 1) := by decide +kernel
theorem dX5_begin_12 : decode cX5_begin 12 = .ok (.iconst 1, 1) := by decide +kernel
theorem dX5_begin_13 : decode cX5_begin 13 = .ok (.isub, 1) := by decide +kernel
theorem dX5_begin_14 : decode cX5_begin 14 = .ok (.putfield 15, 3) := by decide +kernel
theorem dX5_begin_17 : decode cX5_begin 17 = .ok (.aload_n 0, 1) := by decide +kernel
theorem dX5_begin_18 : decode cX5_begin 18 = .ok (.iconst 0, 1) := by decide +kernel
theorem dX5_begin_19 : decode cX5_begin 19 = .ok (.putfield 18, 3) := by decide +kernel
theorem dX5_begin_22 : decode cX5_begin 22 = .ok (.aload_n 0, 1) := by decide +kernel
theorem dX5_begin_23 : decode cX5_begin 23 = .ok (.aload_n 1, 1) := by decide +kernel
theorem dX5_begin_24 : decode cX5_begin 24 = .ok (.getfield 33, 3) := by decide +kernel
theorem dX5_begin_27 : decode cX5_begin 27 = .ok (.putfield 21, 3) := by decide +kernel
theorem dX5_begin_30 : decode cX5_begin 30 = .ok (.aload_n 1, 1) := by decide +kernel
theorem dX5_begin_31 : decode cX5_begin 31 = .ok (.getfield 34, 3) := by decide +kernel
theorem dX5_begin_34 : decode cX5_begin 34 = .ok (.iconst 0, 1) := by decide +kernel
theorem dX5_begin_35 : decode cX5_begin 35 = .ok (.aload_n 0, 1) := by decide +kernel
theorem dX5_begin_36 : decode cX5_begin 36 = .ok (.getfield 24, 3) := by decide +kernel
theorem dX5_begin_39 : decode cX5_begin 39 = .ok (.iconst 0, 1) := by decide +kernel
theorem dX5_begin_40 : decode cX5_begin 40 = .ok (.bipush 7, 2) := by decide +kernel
theorem dX5_begin_42 : decode cX5_begin 42 = .ok (.invokestatic 35, 3) := by decide +kernel
theorem dX5_begin_45 : decode cX5_begin 45 = .ok (.return_, 1) := by decide +kernel
theorem dX5_become_0 : decode cX5_become 0 = .ok (.aload_n 0, 1) := by decide +kernel
theorem dX5_become_1 : decode cX5_become 1 = .ok (.aload_n 1, 1) := by decide +kernel
theorem dX5_become_2 : decode cX5_become 2 = .ok (.getfield 9, 3) := by decide +kernel
theorem dX5_become_5 : decode cX5_become 5 = .ok (.putfield 9, 3) := by decide +kernel
theorem dX5_become_8 : decode cX5_become 8 = .ok (.aload_n 0, 1) := by decide +kernel
theorem dX5_become_9 : decode cX5_become 9 = .ok (.aload_n 1, 1) := by decide +kernel
theorem dX5_become_10 : decode cX5_become 10 = .ok (.getfield 15, 3) := by decide +kernel
theorem dX5_become_13 : decode cX5_become 13 = .ok (.putfield 15, 3) := by decide +kernel
theorem dX5_become_16 : decode cX5_become 16 = .ok (.aload_n 0, 1) := by decide +kernel
theorem dX5_become_17 : decode cX5_become 17 = .ok (.aload_n 1, 1) := by decide +kernel
theorem dX5_become_18 : decode cX5_become 18 = .ok (.getfield 18, 3) := by decide +kernel
theorem dX5_become_21 : decode cX5_become 21 = .ok (.putfield 18, 3) := by decide +kernel
theorem dX5_become_24 : decode cX5_become 24 = .ok (.aload_n 0, 1) := by decide +kernel
theorem dX5_become_25 : decode cX5_become 25 = .ok (.aload_n 1, 1) := by decide +kernel
theorem dX5_become_26 : decode cX5_become 26 = .ok (.getfield 21, 3) := by decide +kernel
theorem dX5_become_29 : decode cX5_become 29 = .ok (.putfield 21, 3) := by decide +kernel
theorem dX5_become_32 : decode cX5_become 32 = .ok (.aload_n 1, 1) := by decide +kernel
theorem dX5_become_33 : decode cX5_become 33 = .ok (.getfield 24, 3) := by decide +kernel
theorem dX5_become_36 : decode cX5_become 36 = .ok (.iconst 0, 1) := by decide +kernel
theorem dX5_become_37 : decode cX5_become 37 = .ok (.aload_n 0, 1) := by decide +kernel
theorem dX5_become_38 : decode cX5_become 38 = .ok (.getfield 24, 3) := by decide +kernel
theorem dX5_become_41 : decode cX5_become 41 = .ok (.iconst 0, 1) := by decide +kernel
theorem dX5_become_42 : decode cX5_become 42 = .ok (.bipush 7, 2) := by decide +kernel
theorem dX5_become_44 : decode cX5_become 44 = .ok (.invokestatic 35, 3) := by decide +kernel
theorem dX5_become_47 : decode cX5_become 47 = .ok (.return_, 1) := by decide +kernel
theorem dX6_init_0 : decode cX6_init 0 = .ok (.aload_n 0, 1) := by decide +kernel
theorem dX6_init_1 : decode cX6_init 1 = .ok (.invokespecial 3, 3) := by decide +kernel
theorem dX6_init_4 : decode cX6_init 4 = .ok (.aload_n 0, 1) := by decide +kernel
theorem dX6_init_5 : decode cX6_init 5 = .ok (.bipush 30, 2) := by decide +kernel
theorem dX6_init_7 : decode cX6_init 7 = .ok (.anewarray 9, 3) := by decide +kernel
theorem dX6_init_10 : decode cX6_init 10 = .ok (.putfield 11, 3) := by decide +kernel
theorem dX6_init_13 : decode cX6_init 13 = .ok (.aload_n 0, 1) := by decide +kernel
theorem dX6_init_14 : decode cX6_init 14 = .ok (.iconst 0, 1) := by decide +kernel
theorem dX6_init_15 : decode cX6_init 15 = .ok (.putfield 17, 3) := by decide +kernel
theorem dX6_init_18 : decode cX6_init 18 = .ok (.aload_n 0, 1) := by decide +kernel
theorem dX6_init_19 : decode cX6_init 19 = .ok (.iconst 0, 1) := by decide +kernel
theorem dX6_init_20 : decode cX6_init 20 = .ok (.putfield 21, 3) := by decide +kernel
theorem dX6_init_23 : decode cX6_init 23 = .ok (.aload_n 0, 1) := by decide +kernel
theorem dX6_init_24 : decode cX6_init 24 = .ok (.iconst 3, 1) := by decide +kernel
theorem dX6_init_25 : decode cX6_init 25 = .ok (.anewarray 9, 3) := by decide +kernel
theorem dX6_init_28 : decode cX6_init 28 = .ok (.putfield 24, 3) := by decide +kernel
theorem dX6_init_31 : decode cX6_init 31 = .ok (.aload_n 0, 1) := by decide +kernel
theorem dX6_init_32 : decode cX6_init 32 = .ok (.iconst 3, 1) := by decide +kernel
theorem dX6_init_33 : decode cX6_init 33 = .ok (.anewarray 27, 3) := by decide +kernel
theorem dX6_init_36 : decode cX6_init 36 = .ok (.putfield 29, 3) := by decide +kernel
theorem dX6_init_39 : decode cX6_init 39 = .ok (.aload_n 0, 1) := by decide +kernel
theorem dX6_init_40 : decode cX6_init 40 = .ok (.iconst 0, 1) := by decide +kernel
theorem dX6_init_41 : decode cX6_init 41 = .ok (.putfield 33, 3) := by decide +kernel
theorem dX6_init_44 : decode cX6_init 44 = .ok (.iconst 0, 1) := by decide +kernel
theorem dX6_init_45 : decode cX6_init 45 = .ok (.istore_n 1, 1) := by decide +kernel
theorem dX6_init_46 : decode cX6_init 46 = .ok (.iload_n 1, 1) := by decide +kernel
theorem dX6_init_47 : decode cX6_init 47 = .ok (.bipush 30, 2) := by decide +kernel
theorem dX6_init_49 : decode cX6_init 49 = .ok (.if_icmp .ge 22, 3) := by decide +kernel
theorem dX6_init_52 : decode cX6_init 52 = .ok (.aload_n 0, 1) := by decide +kernel
theorem dX6_init_53 : decode cX6_init 53 = .ok (.getfield 11, 3) := by decide +kernel
theorem dX6_init_56 : decode cX6_init 56 = .ok (.iload_n 1, 1) := by decide +kernel
theorem dX6_init_57 : decode cX6_init 57 = .ok (.new 9, 3) := by decide +kernel
theorem dX6_init_60 : decode cX6_init 60 = .ok (.dup, 1) := by decide +kernel
theorem dX6_init_61 : decode cX6_init 61 = .ok (.invokespecial 36, 3) := by decide +kernel
theorem dX6_init_64 : decode cX6_init 64 = .ok (.aastore, 1) := by decide +kernel
theorem dX6_init_65 : decode cX6_init 65 = .ok (.iinc 1 1, 3) := by decide +kernel
theorem dX6_init_68 : decode cX6_init 68 = .ok (.goto (-22), 3) := by decide +kernel
theorem dX6_init_71 : decode cX6_init 71 = .ok (.iconst 0, 1) := by decide +kernel
theorem dX6_init_72 : decode cX6_init 72 = .ok (.istore_n 1, 1) := by decide +kernel
theorem dX6_init_73 : decode cX6_init 73 = .ok (.iload_n 1, 1) := by decide +kernel
theorem dX6_init_74 : decode cX6_init 74 = .ok (.iconst 3, 1) := by decide +kernel
theorem dX6_init_75 : decode cX6_init 75 = .ok (.if_icmp .ge 35, 3) := by decide +kernel
theorem dX6_init_78 : decode cX6_init 78 = .ok (.aload_n 0, 1) := by decide +kernel
theorem dX6_init_79 : decode cX6_init 79 = .ok (.getfield 24, 3) := by decide +kernel
theorem dX6_init_82 : decode cX6_init 82 = .ok (.iload_n 1, 1) := by decide +kernel
theorem dX6_init_83 : decode cX6_init 83 = .ok (.new 9, 3) := by decide +kernel
theorem dX6_init_86 : decode cX6_init 86 = .ok (.dup, 1) := by decide +kernel
theorem dX6_init_87 : decode cX6_init 87 = .ok (.invokespecial 36, 3) := by decide +kernel
theorem dX6_init_90 : decode cX6_init 90 = .ok (.aastore, 1) := by decide +kernel
theorem dX6_init_91 : decode cX6_init 91 = .ok (.aload_n 0, 1) := by decide +kernel
theorem dX6_init_92 : decode cX6_init 92 = .ok (.getfield 29, 3) := by decide +kernel
theorem dX6_init_95 : decode cX6_init 95 = .ok (.iload_n 1, 1) := by decide +kernel
theorem dX6_init_96 : decode cX6_init 96 = .ok (.new 27, 3) := by decide +kernel
theorem dX6_init_99 : decode cX6_init 99 = .ok (.dup, 1) := by decide +kernel
theorem dX6_init_100 : decode cX6_init 100 = .ok (.invokespecial 37, 3) := by decide +kernel
theorem dX6_init_103 : decode cX6_init 103 = .ok (.aastore, 1) := by decide +kernel
theorem dX6_init_104 : decode cX6_init 104 = .ok (.iinc 1 1, 3) := by decide +kernel
theorem dX6_init_107 : decode cX6_init 107 = .ok (.goto (-34), 3) := by decide +kernel
theorem dX6_init_110 : decode cX6_init 110 = .ok (.return_, 1) := by decide +kernel
theorem dX6_forgetAll_0 : decode cX6_forgetAll 0 = .ok (.aload_n 0, 1) := by decide +kernel
theorem dX6_forgetAll_1 : decode cX6_forgetAll 1 = .ok (.iconst 0, 1) := by decide +kernel
theorem dX6_forgetAll_2 : decode cX6_forgetAll 2 = .ok (.putfield 21, 3) := by decide +kernel
theorem dX6_forgetAll_5 : decode cX6_forgetAll 5 = .ok (.aload_n 0, 1) := by decide +kernel
theorem dX6_forgetAll_6 : decode cX6_forgetAll 6 = .ok (.iconst 0, 1) := by decide +kernel
theorem dX6_forgetAll_7 : decode cX6_forgetAll 7 = .ok (.putfield 33, 3) := by decide +kernel
theorem dX6_forgetAll_10 : decode cX6_forgetAll 10 = .ok (.return_, 1) := by decide +kernel
theorem dX6_keep_0 : decode cX6_keep 0 = .ok (.aload_n 0, 1) := by decide +kernel
theorem dX6_keep_1 : decode cX6_keep 1 = .ok (.getfield 11, 3) := by decide +kernel
theorem dX6_keep_4 : decode cX6_keep 4 = .ok (.aload_n 0, 1) := by decide +kernel
theorem dX6_keep_5 : decode cX6_keep 5 = .ok (.getfield 17, 3) := by decide +kernel
theorem dX6_keep_8 : decode cX6_keep 8 = .ok (.aaload, 1) := by decide +kernel
theorem dX6_keep_9 : decode cX6_keep 9 = .ok (.aload_n 1, 1) := by decide +kernel
theorem dX6_keep_10 : decode cX6_keep 10 = .ok (.invokevirtual 38, 3) := by decide +kernel
theorem dX6_keep_13 : decode cX6_keep 13 = .ok (.aload_n 0, 1) := by decide +kernel
theorem dX6_keep_14 : decode cX6_keep 14 = .ok (.aload_n 0, 1) := by decide +kernel
theorem dX6_keep_15 : decode cX6_keep 15 = .ok (.getfield 17, 3) := by decide +kernel
theorem dX6_keep_18 : decode cX6_keep 18 = .ok (.iconst 1, 1) := by decide +kernel
theorem dX6_keep_19 : decode cX6_keep 19 = .ok (.iadd, 1) := by decide +kernel
theorem dX6_keep_20 : decode cX6_keep 20 = .ok (.bipush 30, 2) := by decide +kernel
theorem dX6_keep_22 : decode cX6_keep 22 = .ok (.if_icmp .ge 12, 3) := by decide +kernel
theorem dX6_keep_25 : decode cX6_keep 25 = .ok (.aload_n 0, 1) := by decide +kernel
theorem dX6_keep_26 : decode cX6_keep 26 = .ok (.getfield 17, 3) := by decide +kernel
theorem dX6_keep_29 : decode cX6_keep 29 = .ok (.iconst 1, 1) := by decide +kernel
theorem dX6_keep_30 : decode cX6_keep 30 = .ok (.iadd, 1) := by decide +kernel
theorem dX6_keep_31 : decode cX6_keep 31 = .ok (.goto 4, 3) := by decide +kernel
theorem dX6_keep_34 : decode cX6_keep 34 = .ok (.iconst 0, 1) := by decide +kernel
theorem dX6_keep_35 : decode cX6_keep 35 = .ok (.putfield 17, 3) := by decide +kernel
theorem dX6_keep_38 : decode cX6_keep 38 = .ok (.aload_n 0, 1) := by decide +kernel
theorem dX6_keep_39 : decode cX6_keep 39 = .ok (.aload_n 0, 1) := by decide +kernel
theorem dX6_keep_40 : decode cX6_keep 40 = .ok (.getfield 21, 3) := by decide +kernel
theorem dX6_keep_43 : decode cX6_keep 43 = .ok (.iconst 1, 1) := by decide +kernel
theorem dX6_keep_44 : decode cX6_keep 44 = .ok (.iadd, 1) := by decide +kernel
theorem dX6_keep_45 : decode cX6_keep 45 = .ok (.bipush 30, 2) := by decide +kernel
theorem dX6_keep_47 : decode cX6_keep 47 = .ok (.invokestatic 42, 3) := by decide +kernel
theorem dX6_keep_50 : decode cX6_keep 50 = .ok (.putfield 21, 3) := by decide +kernel
theorem dX6_keep_53 : decode cX6_keep 53 = .ok (.return_, 1) := by decide +kernel
theorem dX6_takeBack_0 : decode cX6_takeBack 0 = .ok (.aload_n 0, 1) := by decide +kernel
theorem dX6_takeBack_1 : decode cX6_takeBack 1 = .ok (.getfield 21, 3) := by decide +kernel
theorem dX6_takeBack_4 : decode cX6_takeBack 4 = .ok (.ifCond .ne 5, 3) := by decide +kernel
theorem dX6_takeBack_7 : decode cX6_takeBack 7 = .ok (.iconst 0, 1) := by decide +kernel
theorem dX6_takeBack_8 : decode cX6_takeBack 8 = .ok (.ireturn, 1) := by decide +kernel
theorem dX6_takeBack_9 : decode cX6_takeBack 9 = .ok (.aload_n 0, 1) := by decide +kernel
theorem dX6_takeBack_10 : decode cX6_takeBack 10 = .ok (.aload_n 0, 1) := by decide +kernel
theorem dX6_takeBack_11 : decode cX6_takeBack 11 = .ok (.getfield 17, 3) := by decide +kernel
theorem dX6_takeBack_14 : decode cX6_takeBack 14 = .ok (.ifCond .le 12, 3) := by decide +kernel
theorem dX6_takeBack_17 : decode cX6_takeBack 17 = .ok (.aload_n 0, 1) := by decide +kernel
theorem dX6_takeBack_18 : decode cX6_takeBack 18 = .ok (.getfield 17, 3) := by decide +kernel
theorem dX6_takeBack_21 : decode cX6_takeBack 21 = .ok (.iconst 1, 1) := by decide +kernel
theorem dX6_takeBack_22 : decode cX6_takeBack 22 = .ok (.isub, 1) := by decide +kernel
theorem dX6_takeBack_23 : decode cX6_takeBack 23 = .ok (.goto 5, 3) := by decide +kernel
theorem dX6_takeBack_26 : decode cX6_takeBack 26 = .ok (.bipush 29, 2) := by decide +kernel
theorem dX6_takeBack_28 : decode cX6_takeBack 28 = .ok (.putfield 17, 3) := by decide +kernel
theorem dX6_takeBack_31 : decode cX6_takeBack 31 = .ok (.aload_n 1, 1) := by decide +kernel
theorem dX6_takeBack_32 : decode cX6_takeBack 32 = .ok (.aload_n 0, 1) := by decide +kernel
theorem dX6_takeBack_33 : decode cX6_takeBack 33 = .ok (.getfield 11, 3) := by decide +kernel
theorem dX6_takeBack_36 : decode cX6_takeBack 36 = .ok (.aload_n 0, 1) := by decide +kernel
theorem dX6_takeBack_37 : decode cX6_takeBack 37 = .ok (.getfield 17, 3) := by decide +kernel
theorem dX6_takeBack_40 : decode cX6_takeBack 40 = .ok (.aaload, 1) := by decide +kernel
theorem dX6_takeBack_41 : decode cX6_takeBack 41 = .ok (.invokevirtual 38, 3) := by decide +kernel
theorem dX6_takeBack_44 : decode cX6_takeBack 44 = .ok (.aload_n 0, 1) := by decide +kernel
theorem dX6_takeBack_45 : decode cX6_takeBack 45 = .ok (.dup, 1) := by decide +kernel
theorem dX6_takeBack_46 : decode cX6_takeBack 46 = .ok (.getfield 21, 3) := by decide +kernel
theorem dX6_takeBack_49 : decode cX6_takeBack 49 = .ok (.iconst 1, 1) := by decide +kernel
theorem dX6_takeBack_50 : decode cX6_takeBack 50 = .ok (.isub, 1) := by decide +kernel
theorem dX6_takeBack_51 : decode cX6_takeBack 51 = .ok (.putfield 21, 3) := by decide +kernel
theorem dX6_takeBack_54 : decode cX6_takeBack 54 = .ok (.iconst 1, 1) := by decide +kernel
theorem dX6_takeBack_55 : decode cX6_takeBack 55 = .ok (.ireturn, 1) := by decide +kernel
theorem dX6_holdIn_0 : decode cX6_holdIn 0 = .ok (.aload_n 0, 1) := by decide +kernel
theorem dX6_holdIn_1 : decode cX6_holdIn 1 = .ok (.getfield 24, 3) := by decide +kernel
theorem dX6_holdIn_4 : decode cX6_holdIn 4 = .ok (.iload_n 1, 1) := by decide +kernel
theorem dX6_holdIn_5 : decode cX6_holdIn 5 = .ok (.aaload, 1) := by decide +kernel
theorem dX6_holdIn_6 : decode cX6_holdIn 6 = .ok (.aload_n 2, 1) := by decide +kernel
theorem dX6_holdIn_7 : decode cX6_holdIn 7 = .ok (.invokevirtual 38, 3) := by decide +kernel
theorem dX6_holdIn_10 : decode cX6_holdIn 10 = .ok (.aload_n 0, 1) := by decide +kernel
theorem dX6_holdIn_11 : decode cX6_holdIn 11 = .ok (.getfield 29, 3) := by decide +kernel
theorem dX6_holdIn_14 : decode cX6_holdIn 14 = .ok (.iload_n 1, 1) := by decide +kernel
theorem dX6_holdIn_15 : decode cX6_holdIn 15 = .ok (.aaload, 1) := by decide +kernel
theorem dX6_holdIn_16 : decode cX6_holdIn 16 = .ok (.aload_n 3, 1) := by decide +kernel
theorem dX6_holdIn_17 : decode cX6_holdIn 17 = .ok (.invokevirtual 48, 3) := by decide +kernel
theorem dX6_holdIn_20 : decode cX6_holdIn 20 = .ok (.aload_n 0, 1) := by decide +kernel
theorem dX6_holdIn_21 : decode cX6_holdIn 21 = .ok (.dup, 1) := by decide +kernel
theorem dX6_holdIn_22 : decode cX6_holdIn 22 = .ok (.getfield 33, 3) := by decide +kernel
theorem dX6_holdIn_25 : decode cX6_holdIn 25 = .ok (.iconst 1, 1) := by decide +kernel
theorem dX6_holdIn_26 : decode cX6_holdIn 26 = .ok (.iload_n 1, 1) := by decide +kernel
theorem dX6_holdIn_27 : decode cX6_holdIn 27 = .ok (.ishl, 1) := by decide +kernel
theorem dX6_holdIn_28 : decode cX6_holdIn 28 = .ok (.ior, 1) := by decide +kernel
theorem dX6_holdIn_29 : decode cX6_holdIn 29 = .ok (.putfield 33, 3) := by decide +kernel
theorem dX6_holdIn_32 : decode cX6_holdIn 32 = .ok (.return_, 1) := by decide +kernel
theorem dX6_goOnFrom_0 : decode cX6_goOnFrom 0 = .ok (.aload_n 0, 1) := by decide +kernel
theorem dX6_goOnFrom_1 : decode cX6_goOnFrom 1 = .ok (.getfield 33, 3) := by decide +kernel
theorem dX6_goOnFrom_4 : decode cX6_goOnFrom 4 = .ok (.iload_n 1, 1) := by decide +kernel
theorem dX6_goOnFrom_5 : decode cX6_goOnFrom 5 = .ok (.ishr, 1) := by decide +kernel
theorem dX6_goOnFrom_6 : decode cX6_goOnFrom 6 = .ok (.iconst 1, 1) := by decide +kernel
theorem dX6_goOnFrom_7 : decode cX6_goOnFrom 7 = .ok (.iand, 1) := by decide +kernel
theorem dX6_goOnFrom_8 : decode cX6_goOnFrom 8 = .ok (.ifCond .ne 5, 3) := by decide +kernel
theorem dX6_goOnFrom_11 : decode cX6_goOnFrom 11 = .ok (.iconst 0, 1) := by decide +kernel
theorem dX6_goOnFrom_12 : decode cX6_goOnFrom 12 = .ok (.ireturn, 1) := by decide +kernel
theorem dX6_goOnFrom_13 : decode cX6_goOnFrom 13 = .ok (.aload_n 2, 1) := by decide +kernel
theorem dX6_goOnFrom_14 : decode cX6_goOnFrom 14 = .ok (.aload_n 0, 1) := by decide +kernel
theorem dX6_goOnFrom_15 : decode cX6_goOnFrom 15 = .ok (.getfield 24, 3) := by decide +kernel
theorem dX6_goOnFrom_18 : decode cX6_goOnFrom 18 = .ok (.iload_n 1, 1) := by decide +kernel
theorem dX6_goOnFrom_19 : decode cX6_goOnFrom 19 = .ok (.aaload, 1) := by decide +kernel
theorem dX6_goOnFrom_20 : decode cX6_goOnFrom 20 = .ok (.invokevirtual 38, 3) := by decide +kernel
theorem dX6_goOnFrom_23 : decode cX6_goOnFrom 23 = .ok (.aload_n 3, 1) := by decide +kernel
theorem dX6_goOnFrom_24 : decode cX6_goOnFrom 24 = .ok (.aload_n 0, 1) := by decide +kernel
theorem dX6_goOnFrom_25 : decode cX6_goOnFrom 25 = .ok (.getfield 29, 3) := by decide +kernel
theorem dX6_goOnFrom_28 : decode cX6_goOnFrom 28 = .ok (.iload_n 1, 1) := by decide +kernel
theorem dX6_goOnFrom_29 : decode cX6_goOnFrom 29 = .ok (.aaload, 1) := by decide +kernel
theorem dX6_goOnFrom_30 : decode cX6_goOnFrom 30 = .ok (.invokevirtual 48, 3) := by decide +kernel
theorem dX6_goOnFrom_33 : decode cX6_goOnFrom 33 = .ok (.aload_n 0, 1) := by decide +kernel
theorem dX6_goOnFrom_34 : decode cX6_goOnFrom 34 = .ok (.iconst 0, 1) := by decide +kernel
theorem dX6_goOnFrom_35 : decode cX6_goOnFrom 35 = .ok (.putfield 21, 3) := by decide +kernel
theorem dX6_goOnFrom_38 : decode cX6_goOnFrom 38 = .ok (.iconst 1, 1) := by decide +kernel
theorem dX6_goOnFrom_39 : decode cX6_goOnFrom 39 = .ok (.ireturn, 1) := by decide +kernel
theorem dX7_init_0 : decode cX7_init 0 = .ok (.aload_n 0, 1) := by decide +kernel
theorem dX7_init_1 : decode cX7_init 1 = .ok (.invokespecial 3, 3) := by decide +kernel
theorem dX7_init_4 : decode cX7_init 4 = .ok (.aload_n 0, 1) := by decide +kernel
theorem dX7_init_5 : decode cX7_init 5 = .ok (.bipush 49, 2) := by decide +kernel
theorem dX7_init_7 : decode cX7_init 7 = .ok (.newarray .int, 2) := by decide +kernel
theorem dX7_init_9 : decode cX7_init 9 = .ok (.putfield 9, 3) := by decide +kernel
theorem dX7_init_12 : decode cX7_init 12 = .ok (.aload_n 0, 1) := by decide +kernel
theorem dX7_init_13 : decode cX7_init 13 = .ok (.bipush 7, 2) := by decide +kernel
theorem dX7_init_15 : decode cX7_init 15 = .ok (.newarray .int, 2) := by decide +kernel
theorem dX7_init_17 : decode cX7_init 17 = .ok (.putfield 15, 3) := by decide +kernel
theorem dX7_init_20 : decode cX7_init 20 = .ok (.aload_n 0, 1) := by decide +kernel
theorem dX7_init_21 : decode cX7_init 21 = .ok (.sipush 896, 3) := by decide +kernel
theorem dX7_init_24 : decode cX7_init 24 = .ok (.newarray .int, 2) := by decide +kernel
theorem dX7_init_26 : decode cX7_init 26 = .ok (.putfield 18, 3) := by decide +kernel
theorem dX7_init_29 : decode cX7_init 29 = .ok (.return_, 1) := by decide +kernel
theorem dX7_measure_0 : decode cX7_measure 0 = .ok (.iconst 0, 1) := by decide +kernel
theorem dX7_measure_1 : decode cX7_measure 1 = .ok (.istore 4, 2) := by decide +kernel
theorem dX7_measure_3 : decode cX7_measure 3 = .ok (.iload 4, 2) := by decide +kernel
theorem dX7_measure_5 : decode cX7_measure 5 = .ok (.bipush 7, 2) := by decide +kernel
theorem dX7_measure_7 : decode cX7_measure 7 = .ok (.if_icmp .ge 79, 3) := by decide +kernel
theorem dX7_measure_10 : decode cX7_measure 10 = .ok (.iload_n 3, 1) := by decide +kernel
theorem dX7_measure_11 : decode cX7_measure 11 = .ok (.iload 4, 2) := by decide +kernel
theorem dX7_measure_13 : decode cX7_measure 13 = .ok (.invokestatic 21, 3) := by decide +kernel
theorem dX7_measure_16 : decode cX7_measure 16 = .ok (.ifCond .eq 64, 3) := by decide +kernel
theorem dX7_measure_19 : decode cX7_measure 19 = .ok (.aload_n 0, 1) := by decide +kernel
theorem dX7_measure_20 : decode cX7_measure 20 = .ok (.getfield 15, 3) := by decide +kernel
theorem dX7_measure_23 : decode cX7_measure 23 = .ok (.iload 4, 2) := by decide +kernel
theorem dX7_measure_25 : decode cX7_measure 25 = .ok (.aload_n 1, 1) := by decide +kernel
theorem dX7_measure_26 : decode cX7_measure 26 = .ok (.aload_n 2, 1) := by decide +kernel
theorem dX7_measure_27 : decode cX7_measure 27 = .ok (.iload 4, 2) := by decide +kernel
theorem dX7_measure_29 : decode cX7_measure 29 = .ok (.invokevirtual 25, 3) := by decide +kernel
theorem dX7_measure_32 : decode cX7_measure 32 = .ok (.iastore, 1) := by decide +kernel
theorem dX7_measure_33 : decode cX7_measure 33 = .ok (.iconst 0, 1) := by decide +kernel
theorem dX7_measure_34 : decode cX7_measure 34 = .ok (.istore 5, 2) := by decide +kernel
theorem dX7_measure_36 : decode cX7_measure 36 = .ok (.iload 5, 2) := by decide +kernel
theorem dX7_measure_38 : decode cX7_measure 38 = .ok (.bipush 7, 2) := by decide +kernel
theorem dX7_measure_40 : decode cX7_measure 40 = .ok (.if_icmp .ge 40, 3) := by decide +kernel
theorem dX7_measure_43 : decode cX7_measure 43 = .ok (.iload_n 3, 1) := by decide +kernel
theorem dX7_measure_44 : decode cX7_measure 44 = .ok (.iload 5, 2) := by decide +kernel
theorem dX7_measure_46 : decode cX7_measure 46 = .ok (.invokestatic 21, 3) := by decide +kernel
theorem dX7_measure_49 : decode cX7_measure 49 = .ok (.ifCond .eq 25, 3) := by decide +kernel
theorem dX7_measure_52 : decode cX7_measure 52 = .ok (.aload_n 0, 1) := by decide +kernel
theorem dX7_measure_53 : decode cX7_measure 53 = .ok (.getfield 9, 3) := by decide +kernel
theorem dX7_measure_56 : decode cX7_measure 56 = .ok (.iload 4, 2) := by decide +kernel
theorem dX7_measure_58 : decode cX7_measure 58 = .ok (.bipush 7, 2) := by decide +kernel
theorem dX7_measure_60 : decode cX7_measure 60 = .ok (.imul, 1) := by decide +kernel
theorem dX7_measure_61 : decode cX7_measure 61 = .ok (.iload 5, 2) := by decide +kernel
theorem dX7_measure_63 : decode cX7_measure 63 = .ok (.iadd, 1) := by decide +kernel
theorem dX7_measure_64 : decode cX7_measure 64 = .ok (.aload_n 1, 1) := by decide +kernel
theorem dX7_measure_65 : decode cX7_measure 65 = .ok (.aload_n 2, 1) := by decide +kernel
theorem dX7_measure_66 : decode cX7_measure 66 = .ok (.iload 4, 2) := by decide +kernel
theorem dX7_measure_68 : decode cX7_measure 68 = .ok (.iload 5, 2) := by decide +kernel
theorem dX7_measure_70 : decode cX7_measure 70 = .ok (.invokevirtual 31, 3) := by decide +kernel
theorem dX7_measure_73 : decode cX7_measure 73 = .ok (.iastore, 1) := by decide +kernel
theorem dX7_measure_74 : decode cX7_measure 74 = .ok (.iinc 5 1, 3) := by decide +kernel
theorem dX7_measure_77 : decode cX7_measure 77 = .ok (.goto (-41), 3) := by decide +kernel
theorem dX7_measure_80 : decode cX7_measure 80 = .ok (.iinc 4 1, 3) := by decide +kernel
theorem dX7_measure_83 : decode cX7_measure 83 = .ok (.goto (-80), 3) := by decide +kernel
theorem dX7_measure_86 : decode cX7_measure 86 = .ok (.iconst 0, 1) := by decide +kernel
theorem dX7_measure_87 : decode cX7_measure 87 = .ok (.istore 4, 2) := by decide +kernel
theorem dX7_measure_89 : decode cX7_measure 89 = .ok (.iload 4, 2) := by decide +kernel
theorem dX7_measure_91 : decode cX7_measure 91 = .ok (.iload_n 3, 1) := by decide +kernel
theorem dX7_measure_92 : decode cX7_measure 92 = .ok (.if_icmp .gt 33, 3) := by decide +kernel
theorem dX7_measure_95 : decode cX7_measure 95 = .ok (.iload 4, 2) := by decide +kernel
theorem dX7_measure_97 : decode cX7_measure 97 = .ok (.sipush 128, 3) := by decide +kernel
theorem dX7_measure_100 : decode cX7_measure 100 = .ok (.if_icmp .ge 25, 3) := by decide +kernel
theorem dX7_measure_103 : decode cX7_measure 103 = .ok (.iload 4, 2) := by decide +kernel
theorem dX7_measure_105 : decode cX7_measure 105 = .ok (.iload_n 3, 1) := by decide +kernel
theorem dX7_measure_106 : decode cX7_measure 106 = .ok (.iconst (-1), 1) := by decide +kernel
theorem dX7_measure_107 : decode cX7_measure 107 = .ok (.ixor, 1) := by decide +kernel
theorem dX7_measure_108 : decode cX7_measure 108 = .ok (.iand, 1) := by decide +kernel
theorem dX7_measure_109 : decode cX7_measure 109 = .ok (.ifCond .ne 10, 3) := by decide +kernel
theorem dX7_measure_112 : decode cX7_measure 112 = .ok (.aload_n 0, 1) := by decide +kernel
theorem dX7_measure_113 : decode cX7_measure 113 = .ok (.iload_n 3, 1) := by decide +kernel
theorem dX7_measure_114 : decode cX7_measure 114 = .ok (.iload 4, 2) := by decide +kernel
theorem dX7_measure_116 : decode cX7_measure 116 = .ok (.invokevirtual 35, 3) := by decide +kernel
theorem dX7_measure_119 : decode cX7_measure 119 = .ok (.iinc 4 1, 3) := by decide +kernel
theorem dX7_measure_122 : decode cX7_measure 122 = .ok (.goto (-33), 3) := by decide +kernel
theorem dX7_measure_125 : decode cX7_measure 125 = .ok (.return_, 1) := by decide +kernel
theorem dX7_findThrough_0 : decode cX7_findThrough 0 = .ok (.iconst 0, 1) := by decide +kernel
theorem dX7_findThrough_1 : decode cX7_findThrough 1 = .ok (.istore_n 3, 1) := by decide +kernel
theorem dX7_findThrough_2 : decode cX7_findThrough 2 = .ok (.iload_n 3, 1) := by decide +kernel
theorem dX7_findThrough_3 : decode cX7_findThrough 3 = .ok (.bipush 7, 2) := by decide +kernel
theorem dX7_findThrough_5 : decode cX7_findThrough 5 = .ok (.if_icmp .ge 58, 3) := by decide +kernel
theorem dX7_findThrough_8 : decode cX7_findThrough 8 = .ok (.iload_n 1, 1) := by decide +kernel
theorem dX7_findThrough_9 : decode cX7_findThrough 9 = .ok (.iload_n 2, 1) := by decide +kernel
theorem dX7_findThrough_10 : decode cX7_findThrough 10 = .ok (.iconst (-1), 1) := by decide +kernel
theorem dX7_findThrough_11 : decode cX7_findThrough 11 = .ok (.ixor, 1) := by decide +kernel
theorem dX7_findThrough_12 : decode cX7_findThrough 12 = .ok (.iand, 1) := by decide +kernel
theorem dX7_findThrough_13 : decode cX7_findThrough 13 = .ok (.iload_n 3, 1) := by decide +kernel
theorem dX7_findThrough_14 : decode cX7_findThrough 14 = .ok (.invokestatic 21, 3) := by decide +kernel
theorem dX7_findThrough_17 : decode cX7_findThrough 17 = .ok (.ifCond .eq 40, 3) := by decide +kernel
theorem dX7_findThrough_20 : decode cX7_findThrough 20 = .ok (.aload_n 0, 1) := by decide +kernel
theorem dX7_findThrough_21 : decode cX7_findThrough 21 = .ok (.iload_n 3, 1) := by decide +kernel
theorem dX7_findThrough_22 : decode cX7_findThrough 22 = .ok (.iload_n 2, 1) := by decide +kernel
theorem dX7_findThrough_23 : decode cX7_findThrough 23 = .ok (.invokevirtual 39, 3) := by decide +kernel
theorem dX7_findThrough_26 : decode cX7_findThrough 26 = .ok (.istore 4, 2) := by decide +kernel
theorem dX7_findThrough_28 : decode cX7_findThrough 28 = .ok (.aload_n 0, 1) := by decide +kernel
theorem dX7_findThrough_29 : decode cX7_findThrough 29 = .ok (.getfield 18, 3) := by decide +kernel
theorem dX7_findThrough_32 : decode cX7_findThrough 32 = .ok (.iload_n 2, 1) := by decide +kernel
theorem dX7_findThrough_33 : decode cX7_findThrough 33 = .ok (.bipush 7, 2) := by decide +kernel
theorem dX7_findThrough_35 : decode cX7_findThrough 35 = .ok (.imul, 1) := by decide +kernel
theorem dX7_findThrough_36 : decode cX7_findThrough 36 = .ok (.iload_n 3, 1) := by decide +kernel
theorem dX7_findThrough_37 : decode cX7_findThrough 37 = .ok (.iadd, 1) := by decide +kernel
theorem dX7_findThrough_38 : decode cX7_findThrough 38 = .ok (.iload 4, 2) := by decide +kernel
theorem dX7_findThrough_40 : decode cX7_findThrough 40 = .ok (.iconst (-1), 1) := by decide +kernel
theorem dX7_findThrough_41 : decode cX7_findThrough 41 = .ok (.if_icmp .ne 7, 3) := by decide +kernel
theorem dX7_findThrough_44 : decode cX7_findThrough 44 = .ok (.iconst 0, 1) := by decide +kernel
theorem dX7_findThrough_45 : decode cX7_findThrough 45 = .ok (.goto 11, 3) := by decide +kernel
theorem dX7_findThrough_48 : decode cX7_findThrough 48 = .ok (.aload_n 0, 1) := by decide +kernel
theorem dX7_findThrough_49 : decode cX7_findThrough 49 = .ok (.iload_n 3, 1) := by decide +kernel
theorem dX7_findThrough_50 : decode cX7_findThrough 50 = .ok (.iload 4, 2) := by decide +kernel
theorem dX7_findThrough_52 : decode cX7_findThrough 52 = .ok (.iload_n 2, 1) := by decide +kernel
theorem dX7_findThrough_53 : decode cX7_findThrough 53 = .ok (.invokevirtual 43, 3) := by decide +kernel
theorem dX7_findThrough_56 : decode cX7_findThrough 56 = .ok (.iastore, 1) := by decide +kernel
theorem dX7_findThrough_57 : decode cX7_findThrough 57 = .ok (.iinc 3 1, 3) := by decide +kernel
theorem dX7_findThrough_60 : decode cX7_findThrough 60 = .ok (.goto (-58), 3) := by decide +kernel
theorem dX7_findThrough_63 : decode cX7_findThrough 63 = .ok (.return_, 1) := by decide +kernel
theorem dX7_isIn_0 : decode cX7_isIn 0 = .ok (.iload_n 0, 1) := by decide +kernel
theorem dX7_isIn_1 : decode cX7_isIn 1 = .ok (.iload_n 1, 1) := by decide +kernel
theorem dX7_isIn_2 : decode cX7_isIn 2 = .ok (.ishr, 1) := by decide +kernel
theorem dX7_isIn_3 : decode cX7_isIn 3 = .ok (.iconst 1, 1) := by decide +kernel
theorem dX7_isIn_4 : decode cX7_isIn 4 = .ok (.iand, 1) := by decide +kernel
theorem dX7_isIn_5 : decode cX7_isIn 5 = .ok (.ifCond .eq 7, 3) := by decide +kernel
theorem dX7_isIn_8 : decode cX7_isIn 8 = .ok (.iconst 1, 1) := by decide +kernel
theorem dX7_isIn_9 : decode cX7_isIn 9 = .ok (.goto 4, 3) := by decide +kernel
theorem dX7_isIn_12 : decode cX7_isIn 12 = .ok (.iconst 0, 1) := by decide +kernel
theorem dX7_isIn_13 : decode cX7_isIn 13 = .ok (.ireturn, 1) := by decide +kernel
theorem dX7_lengthBy_0 : decode cX7_lengthBy 0 = .ok (.iload_n 3, 1) := by decide +kernel
theorem dX7_lengthBy_1 : decode cX7_lengthBy 1 = .ok (.iconst 1, 1) := by decide +kernel
theorem dX7_lengthBy_2 : decode cX7_lengthBy 2 = .ok (.iload_n 2, 1) := by decide +kernel
theorem dX7_lengthBy_3 : decode cX7_lengthBy 3 = .ok (.ishl, 1) := by decide +kernel
theorem dX7_lengthBy_4 : decode cX7_lengthBy 4 = .ok (.iconst (-1), 1) := by decide +kernel
theorem dX7_lengthBy_5 : decode cX7_lengthBy 5 = .ok (.ixor, 1) := by decide +kernel
theorem dX7_lengthBy_6 : decode cX7_lengthBy 6 = .ok (.iand, 1) := by decide +kernel
theorem dX7_lengthBy_7 : decode cX7_lengthBy 7 = .ok (.istore 4, 2) := by decide +kernel
theorem dX7_lengthBy_9 : decode cX7_lengthBy 9 = .ok (.aload_n 0, 1) := by decide +kernel
theorem dX7_lengthBy_10 : decode cX7_lengthBy 10 = .ok (.getfield 9, 3) := by decide +kernel
theorem dX7_lengthBy_13 : decode cX7_lengthBy 13 = .ok (.iload_n 1, 1) := by decide +kernel
theorem dX7_lengthBy_14 : decode cX7_lengthBy 14 = .ok (.bipush 7, 2) := by decide +kernel
theorem dX7_lengthBy_16 : decode cX7_lengthBy 16 = .ok (.imul, 1) := by decide +kernel
theorem dX7_lengthBy_17 : decode cX7_lengthBy 17 = .ok (.iload_n 2, 1) := by decide +kernel
theorem dX7_lengthBy_18 : decode cX7_lengthBy 18 = .ok (.iadd, 1) := by decide +kernel
theorem dX7_lengthBy_19 : decode cX7_lengthBy 19 = .ok (.iaload, 1) := by decide +kernel
theorem dX7_lengthBy_20 : decode cX7_lengthBy 20 = .ok (.aload_n 0, 1) := by decide +kernel
theorem dX7_lengthBy_21 : decode cX7_lengthBy 21 = .ok (.getfield 18, 3) := by decide +kernel
theorem dX7_lengthBy_24 : decode cX7_lengthBy 24 = .ok (.iload 4, 2) := by decide +kernel
theorem dX7_lengthBy_26 : decode cX7_lengthBy 26 = .ok (.bipush 7, 2) := by decide +kernel
theorem dX7_lengthBy_28 : decode cX7_lengthBy 28 = .ok (.imul, 1) := by decide +kernel
theorem dX7_lengthBy_29 : decode cX7_lengthBy 29 = .ok (.iload_n 2, 1) := by decide +kernel
theorem dX7_lengthBy_30 : decode cX7_lengthBy 30 = .ok (.iadd, 1) := by decide +kernel
theorem dX7_lengthBy_31 : decode cX7_lengthBy 31 = .ok (.iaload, 1) := by decide +kernel
theorem dX7_lengthBy_32 : decode cX7_lengthBy 32 = .ok (.iadd, 1) := by decide +kernel
theorem dX7_lengthBy_33 : decode cX7_lengthBy 33 = .ok (.ireturn, 1) := by decide +kernel
theorem dX7_nextPlot_0 : decode cX7_nextPlot 0 = .ok (.iconst (-1), 1) := by decide +kernel
theorem dX7_nextPlot_1 : decode cX7_nextPlot 1 = .ok (.istore_n 3, 1) := by decide +kernel
theorem dX7_nextPlot_2 : decode cX7_nextPlot 2 = .ok (.iconst 0, 1) := by decide +kernel
theorem dX7_nextPlot_3 : decode cX7_nextPlot 3 = .ok (.istore 4, 2) := by decide +kernel
theorem dX7_nextPlot_5 : decode cX7_nextPlot 5 = .ok (.iconst 0, 1) := by decide +kernel
theorem dX7_nextPlot_6 : decode cX7_nextPlot 6 = .ok (.istore 5, 2) := by decide +kernel
theorem dX7_nextPlot_8 : decode cX7_nextPlot 8 = .ok (.iload 5, 2) := by decide +kernel
theorem dX7_nextPlot_10 : decode cX7_nextPlot 10 = .ok (.bipush 7, 2) := by decide +kernel
theorem dX7_nextPlot_12 : decode cX7_nextPlot 12 = .ok (.if_icmp .ge 47, 3) := by decide +kernel
theorem dX7_nextPlot_15 : decode cX7_nextPlot 15 = .ok (.iload_n 2, 1) := by decide +kernel
theorem dX7_nextPlot_16 : decode cX7_nextPlot 16 = .ok (.iload 5, 2) := by decide +kernel
theorem dX7_nextPlot_18 : decode cX7_nextPlot 18 = .ok (.invokestatic 21, 3) := by decide +kernel
theorem dX7_nextPlot_21 : decode cX7_nextPlot 21 = .ok (.ifCond .eq 32, 3) := by decide +kernel
theorem dX7_nextPlot_24 : decode cX7_nextPlot 24 = .ok (.aload_n 0, 1) := by decide +kernel
theorem dX7_nextPlot_25 : decode cX7_nextPlot 25 = .ok (.iload_n 1, 1) := by decide +kernel
theorem dX7_nextPlot_26 : decode cX7_nextPlot 26 = .ok (.iload 5, 2) := by decide +kernel
theorem dX7_nextPlot_28 : decode cX7_nextPlot 28 = .ok (.iload_n 2, 1) := by decide +kernel
theorem dX7_nextPlot_29 : decode cX7_nextPlot 29 = .ok (.invokevirtual 43, 3) := by decide +kernel
theorem dX7_nextPlot_32 : decode cX7_nextPlot 32 = .ok (.istore 6, 2) := by decide +kernel
theorem dX7_nextPlot_34 : decode cX7_nextPlot 34 = .ok (.iload_n 3, 1) := by decide +kernel
theorem dX7_nextPlot_35 : decode cX7_nextPlot 35 = .ok (.iconst (-1), 1) := by decide +kernel
theorem dX7_nextPlot_36 : decode cX7_nextPlot 36 = .ok (.if_icmp .eq 10, 3) := by decide +kernel
theorem dX7_nextPlot_39 : decode cX7_nextPlot 39 = .ok (.iload 6, 2) := by decide +kernel
theorem dX7_nextPlot_41 : decode cX7_nextPlot 41 = .ok (.iload 4, 2) := by decide +kernel
theorem dX7_nextPlot_43 : decode cX7_nextPlot 43 = .ok (.if_icmp .ge 10, 3) := by decide +kernel
theorem dX7_nextPlot_46 : decode cX7_nextPlot 46 = .ok (.iload 5, 2) := by decide +kernel
theorem dX7_nextPlot_48 : decode cX7_nextPlot 48 = .ok (.istore_n 3, 1) := by decide +kernel
theorem dX7_nextPlot_49 : decode cX7_nextPlot 49 = .ok (.iload 6, 2) := by decide +kernel
theorem dX7_nextPlot_51 : decode cX7_nextPlot 51 = .ok (.istore 4, 2) := by decide +kernel
theorem dX7_nextPlot_53 : decode cX7_nextPlot 53 = .ok (.iinc 5 1, 3) := by decide +kernel
theorem dX7_nextPlot_56 : decode cX7_nextPlot 56 = .ok (.goto (-48), 3) := by decide +kernel
theorem dX7_nextPlot_59 : decode cX7_nextPlot 59 = .ok (.iload_n 3, 1) := by decide +kernel
theorem dX7_nextPlot_60 : decode cX7_nextPlot 60 = .ok (.ireturn, 1) := by decide +kernel
theorem dX7_firstPlot_0 : decode cX7_firstPlot 0 = .ok (.iconst (-1), 1) := by decide +kernel
theorem dX7_firstPlot_1 : decode cX7_firstPlot 1 = .ok (.istore_n 2, 1) := by decide +kernel
theorem dX7_firstPlot_2 : decode cX7_firstPlot 2 = .ok (.iconst 0, 1) := by decide +kernel
theorem dX7_firstPlot_3 : decode cX7_firstPlot 3 = .ok (.istore_n 3, 1) := by decide +kernel
theorem dX7_firstPlot_4 : decode cX7_firstPlot 4 = .ok (.iconst 0, 1) := by decide +kernel
theorem dX7_firstPlot_5 : decode cX7_firstPlot 5 = .ok (.istore 4, 2) := by decide +kernel
theorem dX7_firstPlot_7 : decode cX7_firstPlot 7 = .ok (.iload 4, 2) := by decide +kernel
theorem dX7_firstPlot_9 : decode cX7_firstPlot 9 = .ok (.bipush 7, 2) := by decide +kernel
theorem dX7_firstPlot_11 : decode cX7_firstPlot 11 = .ok (.if_icmp .ge 56, 3) := by decide +kernel
theorem dX7_firstPlot_14 : decode cX7_firstPlot 14 = .ok (.iload_n 1, 1) := by decide +kernel
theorem dX7_firstPlot_15 : decode cX7_firstPlot 15 = .ok (.iload 4, 2) := by decide +kernel
theorem dX7_firstPlot_17 : decode cX7_firstPlot 17 = .ok (.invokestatic 21, 3) := by decide +kernel
theorem dX7_firstPlot_20 : decode cX7_firstPlot 20 = .ok (.ifCond .eq 41, 3) := by decide +kernel
theorem dX7_firstPlot_23 : decode cX7_firstPlot 23 = .ok (.aload_n 0, 1) := by decide +kernel
theorem dX7_firstPlot_24 : decode cX7_firstPlot 24 = .ok (.getfield 18, 3) := by decide +kernel
theorem dX7_firstPlot_27 : decode cX7_firstPlot 27 = .ok (.iload_n 1, 1) := by decide +kernel
theorem dX7_firstPlot_28 : decode cX7_firstPlot 28 = .ok (.iconst 1, 1) := by decide +kernel
theorem dX7_firstPlot_29 : decode cX7_firstPlot 29 = .ok (.iload 4, 2) := by decide +kernel
theorem dX7_firstPlot_31 : decode cX7_firstPlot 31 = .ok (.ishl, 1) := by decide +kernel
theorem dX7_firstPlot_32 : decode cX7_firstPlot 32 = .ok (.iconst (-1), 1) := by decide +kernel
theorem dX7_firstPlot_33 : decode cX7_firstPlot 33 = .ok (.ixor, 1) := by decide +kernel
theorem dX7_firstPlot_34 : decode cX7_firstPlot 34 = .ok (.iand, 1) := by decide +kernel
theorem dX7_firstPlot_35 : decode cX7_firstPlot 35 = .ok (.bipush 7, 2) := by decide +kernel
theorem dX7_firstPlot_37 : decode cX7_firstPlot 37 = .ok (.imul, 1) := by decide +kernel
theorem dX7_firstPlot_38 : decode cX7_firstPlot 38 = .ok (.iload 4, 2) := by decide +kernel
theorem dX7_firstPlot_40 : decode cX7_firstPlot 40 = .ok (.iadd, 1) := by decide +kernel
theorem dX7_firstPlot_41 : decode cX7_firstPlot 41 = .ok (.iaload, 1) := by decide +kernel
theorem dX7_firstPlot_42 : decode cX7_firstPlot 42 = .ok (.istore 5, 2) := by decide +kernel
theorem dX7_firstPlot_44 : decode cX7_firstPlot 44 = .ok (.iload_n 2, 1) := by decide +kernel
theorem dX7_firstPlot_45 : decode cX7_firstPlot 45 = .ok (.iconst (-1), 1) := by decide +kernel
theorem dX7_firstPlot_46 : decode cX7_firstPlot 46 = .ok (.if_icmp .eq 9, 3) := by decide +kernel
theorem dX7_firstPlot_49 : decode cX7_firstPlot 49 = .ok (.iload 5, 2) := by decide +kernel
theorem dX7_firstPlot_51 : decode cX7_firstPlot 51 = .ok (.iload_n 3, 1) := by decide +kernel
theorem dX7_firstPlot_52 : decode cX7_firstPlot 52 = .ok (.if_icmp .ge 9, 3) := by decide +kernel
theorem dX7_firstPlot_55 : decode cX7_firstPlot 55 = .ok (.iload 4, 2) := by decide +kernel
theorem dX7_firstPlot_57 : decode cX7_firstPlot 57 = .ok (.istore_n 2, 1) := by decide +kernel
theorem dX7_firstPlot_58 : decode cX7_firstPlot 58 = .ok (.iload 5, 2) := by decide +kernel
theorem dX7_firstPlot_60 : decode cX7_firstPlot 60 = .ok (.istore_n 3, 1) := by decide +kernel
theorem dX7_firstPlot_61 : decode cX7_firstPlot 61 = .ok (.iinc 4 1, 3) := by decide +kernel
theorem dX7_firstPlot_64 : decode cX7_firstPlot 64 = .ok (.goto (-57), 3) := by decide +kernel
theorem dX7_firstPlot_67 : decode cX7_firstPlot 67 = .ok (.iload_n 2, 1) := by decide +kernel
theorem dX7_firstPlot_68 : decode cX7_firstPlot 68 = .ok (.ireturn, 1) := by decide +kernel
theorem dX7_askOfAll_0 : decode cX7_askOfAll 0 = .ok (.iconst 0, 1) := by decide +kernel
theorem dX7_askOfAll_1 : decode cX7_askOfAll 1 = .ok (.istore_n 2, 1) := by decide +kernel
theorem dX7_askOfAll_2 : decode cX7_askOfAll 2 = .ok (.iconst 0, 1) := by decide +kernel
theorem dX7_askOfAll_3 : decode cX7_askOfAll 3 = .ok (.istore_n 3, 1) := by decide +kernel
theorem dX7_askOfAll_4 : decode cX7_askOfAll 4 = .ok (.iload_n 3, 1) := by decide +kernel
theorem dX7_askOfAll_5 : decode cX7_askOfAll 5 = .ok (.bipush 7, 2) := by decide +kernel
theorem dX7_askOfAll_7 : decode cX7_askOfAll 7 = .ok (.if_icmp .ge 26, 3) := by decide +kernel
theorem dX7_askOfAll_10 : decode cX7_askOfAll 10 = .ok (.iload_n 1, 1) := by decide +kernel
theorem dX7_askOfAll_11 : decode cX7_askOfAll 11 = .ok (.iload_n 3, 1) := by decide +kernel
theorem dX7_askOfAll_12 : decode cX7_askOfAll 12 = .ok (.invokestatic 21, 3) := by decide +kernel
theorem dX7_askOfAll_15 : decode cX7_askOfAll 15 = .ok (.ifCond .eq 12, 3) := by decide +kernel
theorem dX7_askOfAll_18 : decode cX7_askOfAll 18 = .ok (.iload_n 2, 1) := by decide +kernel
theorem dX7_askOfAll_19 : decode cX7_askOfAll 19 = .ok (.aload_n 0, 1) := by decide +kernel
theorem dX7_askOfAll_20 : decode cX7_askOfAll 20 = .ok (.getfield 15, 3) := by decide +kernel
theorem dX7_askOfAll_23 : decode cX7_askOfAll 23 = .ok (.iload_n 3, 1) := by decide +kernel
theorem dX7_askOfAll_24 : decode cX7_askOfAll 24 = .ok (.iaload, 1) := by decide +kernel
theorem dX7_askOfAll_25 : decode cX7_askOfAll 25 = .ok (.iadd, 1) := by decide +kernel
theorem dX7_askOfAll_26 : decode cX7_askOfAll 26 = .ok (.istore_n 2, 1) := by decide +kernel
theorem dX7_askOfAll_27 : decode cX7_askOfAll 27 = .ok (.iinc 3 1, 3) := by decide +kernel
theorem dX7_askOfAll_30 : decode cX7_askOfAll 30 = .ok (.goto (-26), 3) := by decide +kernel
theorem dX7_askOfAll_33 : decode cX7_askOfAll 33 = .ok (.iload_n 2, 1) := by decide +kernel
theorem dX7_askOfAll_34 : decode cX7_askOfAll 34 = .ok (.ireturn, 1) := by decide +kernel
theorem dX7_shortest_0 : decode cX7_shortest 0 = .ok (.aload_n 0, 1) := by decide +kernel
theorem dX7_shortest_1 : decode cX7_shortest 1 = .ok (.iload_n 1, 1) := by decide +kernel
theorem dX7_shortest_2 : decode cX7_shortest 2 = .ok (.invokevirtual 47, 3) := by decide +kernel
theorem dX7_shortest_5 : decode cX7_shortest 5 = .ok (.istore_n 2, 1) := by decide +kernel
theorem dX7_shortest_6 : decode cX7_shortest 6 = .ok (.iload_n 2, 1) := by decide +kernel
theorem dX7_shortest_7 : decode cX7_shortest 7 = .ok (.iconst (-1), 1) := by decide +kernel
theorem dX7_shortest_8 : decode cX7_shortest 8 = .ok (.if_icmp .ne 5, 3) := by decide +kernel
theorem dX7_shortest_11 : decode cX7_shortest 11 = .ok (.iconst 0, 1) := by decide +kernel
theorem dX7_shortest_12 : decode cX7_shortest 12 = .ok (.ireturn, 1) := by decide +kernel
theorem dX7_shortest_13 : decode cX7_shortest 13 = .ok (.aload_n 0, 1) := by decide +kernel
theorem dX7_shortest_14 : decode cX7_shortest 14 = .ok (.iload_n 1, 1) := by decide +kernel
theorem dX7_shortest_15 : decode cX7_shortest 15 = .ok (.invokevirtual 51, 3) := by decide +kernel
theorem dX7_shortest_18 : decode cX7_shortest 18 = .ok (.aload_n 0, 1) := by decide +kernel
theorem dX7_shortest_19 : decode cX7_shortest 19 = .ok (.getfield 18, 3) := by decide +kernel
theorem dX7_shortest_22 : decode cX7_shortest 22 = .ok (.iload_n 1, 1) := by decide +kernel
theorem dX7_shortest_23 : decode cX7_shortest 23 = .ok (.iconst 1, 1) := by decide +kernel
theorem dX7_shortest_24 : decode cX7_shortest 24 = .ok (.iload_n 2, 1) := by decide +kernel
theorem dX7_shortest_25 : decode cX7_shortest 25 = .ok (.ishl, 1) := by decide +kernel
theorem dX7_shortest_26 : decode cX7_shortest 26 = .ok (.iconst (-1), 1) := by decide +kernel
theorem dX7_shortest_27 : decode cX7_shortest 27 = .ok (.ixor, 1) := by decide +kernel
theorem dX7_shortest_28 : decode cX7_shortest 28 = .ok (.iand, 1) := by decide +kernel
theorem dX7_shortest_29 : decode cX7_shortest 29 = .ok (.bipush 7, 2) := by decide +kernel
theorem dX7_shortest_31 : decode cX7_shortest 31 = .ok (.imul, 1) := by decide +kernel
theorem dX7_shortest_32 : decode cX7_shortest 32 = .ok (.iload_n 2, 1) := by decide +kernel
theorem dX7_shortest_33 : decode cX7_shortest 33 = .ok (.iadd, 1) := by decide +kernel
theorem dX7_shortest_34 : decode cX7_shortest 34 = .ok (.iaload, 1) := by decide +kernel
theorem dX7_shortest_35 : decode cX7_shortest 35 = .ok (.iadd, 1) := by decide +kernel
theorem dX7_shortest_36 : decode cX7_shortest 36 = .ok (.ireturn, 1) := by decide +kernel
theorem dX7_plotAt_0 : decode cX7_plotAt 0 = .ok (.aload_n 0, 1) := by decide +kernel
theorem dX7_plotAt_1 : decode cX7_plotAt 1 = .ok (.iload_n 1, 1) := by decide +kernel
theorem dX7_plotAt_2 : decode cX7_plotAt 2 = .ok (.invokevirtual 47, 3) := by decide +kernel
theorem dX7_plotAt_5 : decode cX7_plotAt 5 = .ok (.istore_n 3, 1) := by decide +kernel
theorem dX7_plotAt_6 : decode cX7_plotAt 6 = .ok (.iload_n 1, 1) := by decide +kernel
theorem dX7_plotAt_7 : decode cX7_plotAt 7 = .ok (.istore 4, 2) := by decide +kernel
theorem dX7_plotAt_9 : decode cX7_plotAt 9 = .ok (.iconst 0, 1) := by decide +kernel
theorem dX7_plotAt_10 : decode cX7_plotAt 10 = .ok (.istore 5, 2) := by decide +kernel
theorem dX7_plotAt_12 : decode cX7_plotAt 12 = .ok (.iload 5, 2) := by decide +kernel
theorem dX7_plotAt_14 : decode cX7_plotAt 14 = .ok (.iload_n 2, 1) := by decide +kernel
theorem dX7_plotAt_15 : decode cX7_plotAt 15 = .ok (.if_icmp .ge 32, 3) := by decide +kernel
theorem dX7_plotAt_18 : decode cX7_plotAt 18 = .ok (.iload_n 3, 1) := by decide +kernel
theorem dX7_plotAt_19 : decode cX7_plotAt 19 = .ok (.iconst (-1), 1) := by decide +kernel
theorem dX7_plotAt_20 : decode cX7_plotAt 20 = .ok (.if_icmp .eq 27, 3) := by decide +kernel
theorem dX7_plotAt_23 : decode cX7_plotAt 23 = .ok (.iload 4, 2) := by decide +kernel
theorem dX7_plotAt_25 : decode cX7_plotAt 25 = .ok (.iconst 1, 1) := by decide +kernel
theorem dX7_plotAt_26 : decode cX7_plotAt 26 = .ok (.iload_n 3, 1) := by decide +kernel
theorem dX7_plotAt_27 : decode cX7_plotAt 27 = .ok (.ishl, 1) := by decide +kernel
theorem dX7_plotAt_28 : decode cX7_plotAt 28 = .ok (.iconst (-1), 1) := by decide +kernel
theorem dX7_plotAt_29 : decode cX7_plotAt 29 = .ok (.ixor, 1) := by decide +kernel
theorem dX7_plotAt_30 : decode cX7_plotAt 30 = .ok (.iand, 1) := by decide +kernel
theorem dX7_plotAt_31 : decode cX7_plotAt 31 = .ok (.istore 4, 2) := by decide +kernel
theorem dX7_plotAt_33 : decode cX7_plotAt 33 = .ok (.aload_n 0, 1) := by decide +kernel
theorem dX7_plotAt_34 : decode cX7_plotAt 34 = .ok (.iload_n 3, 1) := by decide +kernel
theorem dX7_plotAt_35 : decode cX7_plotAt 35 = .ok (.iload 4, 2) := by decide +kernel
theorem dX7_plotAt_37 : decode cX7_plotAt 37 = .ok (.invokevirtual 39, 3) := by decide +kernel
theorem dX7_plotAt_40 : decode cX7_plotAt 40 = .ok (.istore_n 3, 1) := by decide +kernel
theorem dX7_plotAt_41 : decode cX7_plotAt 41 = .ok (.iinc 5 1, 3) := by decide +kernel
theorem dX7_plotAt_44 : decode cX7_plotAt 44 = .ok (.goto (-32), 3) := by decide +kernel
theorem dX7_plotAt_47 : decode cX7_plotAt 47 = .ok (.iload_n 3, 1) := by decide +kernel
theorem dX7_plotAt_48 : decode cX7_plotAt 48 = .ok (.ireturn, 1) := by decide +kernel
theorem dX7_mostFrom_0 : decode cX7_mostFrom 0 = .ok (.iconst 0, 1) := by decide +kernel
theorem dX7_mostFrom_1 : decode cX7_mostFrom 1 = .ok (.istore 4, 2) := by decide +kernel
theorem dX7_mostFrom_3 : decode cX7_mostFrom 3 = .ok (.iconst 0, 1) := by decide +kernel
theorem dX7_mostFrom_4 : decode cX7_mostFrom 4 = .ok (.istore 5, 2) := by decide +kernel
theorem dX7_mostFrom_6 : decode cX7_mostFrom 6 = .ok (.iload 5, 2) := by decide +kernel
theorem dX7_mostFrom_8 : decode cX7_mostFrom 8 = .ok (.iload_n 2, 1) := by decide +kernel
theorem dX7_mostFrom_9 : decode cX7_mostFrom 9 = .ok (.if_icmp .gt 74, 3) := by decide +kernel
theorem dX7_mostFrom_12 : decode cX7_mostFrom 12 = .ok (.iload 5, 2) := by decide +kernel
theorem dX7_mostFrom_14 : decode cX7_mostFrom 14 = .ok (.sipush 128, 3) := by decide +kernel
theorem dX7_mostFrom_17 : decode cX7_mostFrom 17 = .ok (.if_icmp .ge 66, 3) := by decide +kernel
theorem dX7_mostFrom_20 : decode cX7_mostFrom 20 = .ok (.iload 5, 2) := by decide +kernel
theorem dX7_mostFrom_22 : decode cX7_mostFrom 22 = .ok (.iload_n 1, 1) := by decide +kernel
theorem dX7_mostFrom_23 : decode cX7_mostFrom 23 = .ok (.invokestatic 21, 3) := by decide +kernel
theorem dX7_mostFrom_26 : decode cX7_mostFrom 26 = .ok (.ifCond .ne 51, 3) := by decide +kernel
theorem dX7_mostFrom_29 : decode cX7_mostFrom 29 = .ok (.aload_n 0, 1) := by decide +kernel
theorem dX7_mostFrom_30 : decode cX7_mostFrom 30 = .ok (.getfield 15, 3) := by decide +kernel
theorem dX7_mostFrom_33 : decode cX7_mostFrom 33 = .ok (.iload_n 1, 1) := by decide +kernel
theorem dX7_mostFrom_34 : decode cX7_mostFrom 34 = .ok (.iaload, 1) := by decide +kernel
theorem dX7_mostFrom_35 : decode cX7_mostFrom 35 = .ok (.aload_n 0, 1) := by decide +kernel
theorem dX7_mostFrom_36 : decode cX7_mostFrom 36 = .ok (.iload 5, 2) := by decide +kernel
theorem dX7_mostFrom_38 : decode cX7_mostFrom 38 = .ok (.invokevirtual 51, 3) := by decide +kernel
theorem dX7_mostFrom_41 : decode cX7_mostFrom 41 = .ok (.iadd, 1) := by decide +kernel
theorem dX7_mostFrom_42 : decode cX7_mostFrom 42 = .ok (.aload_n 0, 1) := by decide +kernel
theorem dX7_mostFrom_43 : decode cX7_mostFrom 43 = .ok (.getfield 18, 3) := by decide +kernel
theorem dX7_mostFrom_46 : decode cX7_mostFrom 46 = .ok (.iload 5, 2) := by decide +kernel
theorem dX7_mostFrom_48 : decode cX7_mostFrom 48 = .ok (.bipush 7, 2) := by decide +kernel
theorem dX7_mostFrom_50 : decode cX7_mostFrom 50 = .ok (.imul, 1) := by decide +kernel
theorem dX7_mostFrom_51 : decode cX7_mostFrom 51 = .ok (.iload_n 1, 1) := by decide +kernel
theorem dX7_mostFrom_52 : decode cX7_mostFrom 52 = .ok (.iadd, 1) := by decide +kernel
theorem dX7_mostFrom_53 : decode cX7_mostFrom 53 = .ok (.iaload, 1) := by decide +kernel
theorem dX7_mostFrom_54 : decode cX7_mostFrom 54 = .ok (.iadd, 1) := by decide +kernel
theorem dX7_mostFrom_55 : decode cX7_mostFrom 55 = .ok (.istore 6, 2) := by decide +kernel
theorem dX7_mostFrom_57 : decode cX7_mostFrom 57 = .ok (.iload 6, 2) := by decide +kernel
theorem dX7_mostFrom_59 : decode cX7_mostFrom 59 = .ok (.iload_n 3, 1) := by decide +kernel
theorem dX7_mostFrom_60 : decode cX7_mostFrom 60 = .ok (.if_icmp .gt 17, 3) := by decide +kernel
theorem dX7_mostFrom_63 : decode cX7_mostFrom 63 = .ok (.iload 4, 2) := by decide +kernel
theorem dX7_mostFrom_65 : decode cX7_mostFrom 65 = .ok (.iconst 1, 1) := by decide +kernel
theorem dX7_mostFrom_66 : decode cX7_mostFrom 66 = .ok (.iload 5, 2) := by decide +kernel
theorem dX7_mostFrom_68 : decode cX7_mostFrom 68 = .ok (.invokestatic 54, 3) := by decide +kernel
theorem dX7_mostFrom_71 : decode cX7_mostFrom 71 = .ok (.iadd, 1) := by decide +kernel
theorem dX7_mostFrom_72 : decode cX7_mostFrom 72 = .ok (.invokestatic 59, 3) := by decide +kernel
theorem dX7_mostFrom_75 : decode cX7_mostFrom 75 = .ok (.istore 4, 2) := by decide +kernel
theorem dX7_mostFrom_77 : decode cX7_mostFrom 77 = .ok (.iinc 5 1, 3) := by decide +kernel
theorem dX7_mostFrom_80 : decode cX7_mostFrom 80 = .ok (.goto (-74), 3) := by decide +kernel
theorem dX7_mostFrom_83 : decode cX7_mostFrom 83 = .ok (.iload 4, 2) := by decide +kernel
theorem dX7_mostFrom_85 : decode cX7_mostFrom 85 = .ok (.ireturn, 1) := by decide +kernel
theorem dX8_init_0 : decode cX8_init 0 = .ok (.aload_n 0, 1) := by decide +kernel
theorem dX8_init_1 : decode cX8_init 1 = .ok (.invokespecial 3, 3) := by decide +kernel
theorem dX8_init_4 : decode cX8_init 4 = .ok (.aload_n 0, 1) := by decide +kernel
theorem dX8_init_5 : decode cX8_init 5 = .ok (.iconst 0, 1) := by decide +kernel
theorem dX8_init_6 : decode cX8_init 6 = .ok (.putfield 9, 3) := by decide +kernel
theorem dX8_init_9 : decode cX8_init 9 = .ok (.aload_n 0, 1) := by decide +kernel
theorem dX8_init_10 : decode cX8_init 10 = .ok (.aload_n 1, 1) := by decide +kernel
theorem dX8_init_11 : decode cX8_init 11 = .ok (.putfield 15, 3) := by decide +kernel
theorem dX8_init_14 : decode cX8_init 14 = .ok (.aload_n 0, 1) := by decide +kernel
theorem dX8_init_15 : decode cX8_init 15 = .ok (.aload_n 2, 1) := by decide +kernel
theorem dX8_init_16 : decode cX8_init 16 = .ok (.putfield 19, 3) := by decide +kernel
theorem dX8_init_19 : decode cX8_init 19 = .ok (.return_, 1) := by decide +kernel
theorem dX8_fills_0 : decode cX8_fills 0 = .ok (.aload_n 0, 1) := by decide +kernel
theorem dX8_fills_1 : decode cX8_fills 1 = .ok (.aload_n 1, 1) := by decide +kernel
theorem dX8_fills_2 : decode cX8_fills 2 = .ok (.putfield 19, 3) := by decide +kernel
theorem dX8_fills_5 : decode cX8_fills 5 = .ok (.aload_n 0, 1) := by decide +kernel
theorem dX8_fills_6 : decode cX8_fills 6 = .ok (.iconst 0, 1) := by decide +kernel
theorem dX8_fills_7 : decode cX8_fills 7 = .ok (.putfield 9, 3) := by decide +kernel
theorem dX8_fills_10 : decode cX8_fills 10 = .ok (.iconst 0, 1) := by decide +kernel
theorem dX8_fills_11 : decode cX8_fills 11 = .ok (.istore_n 2, 1) := by decide +kernel
theorem dX8_fills_12 : decode cX8_fills 12 = .ok (.iload_n 2, 1) := by decide +kernel
theorem dX8_fills_13 : decode cX8_fills 13 = .ok (.sipush 400, 3) := by decide +kernel
theorem dX8_fills_16 : decode cX8_fills 16 = .ok (.if_icmp .gt 69, 3) := by decide +kernel
theorem dX8_fills_19 : decode cX8_fills 19 = .ok (.aload_n 0, 1) := by decide +kernel
theorem dX8_fills_20 : decode cX8_fills 20 = .ok (.getfield 9, 3) := by decide +kernel
theorem dX8_fills_23 : decode cX8_fills 23 = .ok (.sipush 400, 3) := by decide +kernel
theorem dX8_fills_26 : decode cX8_fills 26 = .ok (.if_icmp .ge 59, 3) := by decide +kernel
theorem dX8_fills_29 : decode cX8_fills 29 = .ok (.aload_n 0, 1) := by decide +kernel
theorem dX8_fills_30 : decode cX8_fills 30 = .ok (.getfield 15, 3) := by decide +kernel
theorem dX8_fills_33 : decode cX8_fills 33 = .ok (.aload_n 0, 1) := by decide +kernel
theorem dX8_fills_34 : decode cX8_fills 34 = .ok (.getfield 9, 3) := by decide +kernel
theorem dX8_fills_37 : decode cX8_fills 37 = .ok (.invokevirtual 23, 3) := by decide +kernel
theorem dX8_fills_40 : decode cX8_fills 40 = .ok (.ifCond .eq 45, 3) := by decide +kernel
theorem dX8_fills_43 : decode cX8_fills 43 = .ok (.aload_n 0, 1) := by decide +kernel
theorem dX8_fills_44 : decode cX8_fills 44 = .ok (.getfield 15, 3) := by decide +kernel
theorem dX8_fills_47 : decode cX8_fills 47 = .ok (.aload_n 0, 1) := by decide +kernel
theorem dX8_fills_48 : decode cX8_fills 48 = .ok (.getfield 9, 3) := by decide +kernel
theorem dX8_fills_51 : decode cX8_fills 51 = .ok (.invokevirtual 23, 3) := by decide +kernel
theorem dX8_fills_54 : decode cX8_fills 54 = .ok (.istore_n 3, 1) := by decide +kernel
theorem dX8_fills_55 : decode cX8_fills 55 = .ok (.aload_n 0, 1) := by decide +kernel
theorem dX8_fills_56 : decode cX8_fills 56 = .ok (.dup, 1) := by decide +kernel
theorem dX8_fills_57 : decode cX8_fills 57 = .ok (.getfield 9, 3) := by decide +kernel
theorem dX8_fills_60 : decode cX8_fills 60 = .ok (.iconst 1, 1) := by decide +kernel
theorem dX8_fills_61 : decode cX8_fills 61 = .ok (.iadd, 1) := by decide +kernel
theorem dX8_fills_62 : decode cX8_fills 62 = .ok (.putfield 9, 3) := by decide +kernel
theorem dX8_fills_65 : decode cX8_fills 65 = .ok (.aload_n 0, 1) := by decide +kernel
theorem dX8_fills_66 : decode cX8_fills 66 = .ok (.iload_n 3, 1) := by decide +kernel
theorem dX8_fills_67 : decode cX8_fills 67 = .ok (.invokevirtual 29, 3) := by decide +kernel
theorem dX8_fills_70 : decode cX8_fills 70 = .ok (.ifCond .ne 5, 3) := by decide +kernel
theorem dX8_fills_73 : decode cX8_fills 73 = .ok (.iconst 0, 1) := by decide +kernel
theorem dX8_fills_74 : decode cX8_fills 74 = .ok (.ireturn, 1) := by decide +kernel
theorem dX8_fills_75 : decode cX8_fills 75 = .ok (.aload_n 0, 1) := by decide +kernel
theorem dX8_fills_76 : decode cX8_fills 76 = .ok (.invokevirtual 33, 3) := by decide +kernel
theorem dX8_fills_79 : decode cX8_fills 79 = .ok (.iinc 2 1, 3) := by decide +kernel
theorem dX8_fills_82 : decode cX8_fills 82 = .ok (.goto (-70), 3) := by decide +kernel
theorem dX8_fills_85 : decode cX8_fills 85 = .ok (.iconst 1, 1) := by decide +kernel
theorem dX8_fills_86 : decode cX8_fills 86 = .ok (.ireturn, 1) := by decide +kernel
theorem dX8_fillsOne_0 : decode cX8_fillsOne 0 = .ok (.iload_n 1, 1) := by decide +kernel
theorem dX8_fillsOne_1 : decode cX8_fillsOne 1 = .ok (.tableswitch 135 13 22 #[55, 60, 65, 70, 135, 135, 135, 135, 75, 104], 55) := by decide +kernel
theorem dX8_fillsOne_56 : decode cX8_fillsOne 56 = .ok (.aload_n 0, 1) := by decide +kernel
theorem dX8_fillsOne_57 : decode cX8_fillsOne 57 = .ok (.invokevirtual 36, 3) := by decide +kernel
theorem dX8_fillsOne_60 : decode cX8_fillsOne 60 = .ok (.ireturn, 1) := by decide +kernel
theorem dX8_fillsOne_61 : decode cX8_fillsOne 61 = .ok (.aload_n 0, 1) := by decide +kernel
theorem dX8_fillsOne_62 : decode cX8_fillsOne 62 = .ok (.invokevirtual 40, 3) := by decide +kernel
theorem dX8_fillsOne_65 : decode cX8_fillsOne 65 = .ok (.ireturn, 1) := by decide +kernel
theorem dX8_fillsOne_66 : decode cX8_fillsOne 66 = .ok (.aload_n 0, 1) := by decide +kernel
theorem dX8_fillsOne_67 : decode cX8_fillsOne 67 = .ok (.invokevirtual 43, 3) := by decide +kernel
theorem dX8_fillsOne_70 : decode cX8_fillsOne 70 = .ok (.ireturn, 1) := by decide +kernel
theorem dX8_fillsOne_71 : decode cX8_fillsOne 71 = .ok (.aload_n 0, 1) := by decide +kernel
theorem dX8_fillsOne_72 : decode cX8_fillsOne 72 = .ok (.invokevirtual 46, 3) := by decide +kernel
theorem dX8_fillsOne_75 : decode cX8_fillsOne 75 = .ok (.ireturn, 1) := by decide +kernel
theorem dX8_fillsOne_76 : decode cX8_fillsOne 76 = .ok (.aload_n 0, 1) := by decide +kernel
theorem dX8_fillsOne_77 : decode cX8_fillsOne 77 = .ok (.getfield 19, 3) := by decide +kernel
theorem dX8_fillsOne_80 : decode cX8_fillsOne 80 = .ok (.aload_n 0, 1) := by decide +kernel
theorem dX8_fillsOne_81 : decode cX8_fillsOne 81 = .ok (.iconst 1, 1) := by decide +kernel
theorem dX8_fillsOne_82 : decode cX8_fillsOne 82 = .ok (.iconst 4, 1) := by decide +kernel
theorem dX8_fillsOne_83 : decode cX8_fillsOne 83 = .ok (.invokevirtual 49, 3) := by decide +kernel
theorem dX8_fillsOne_86 : decode cX8_fillsOne 86 = .ok (.putfield 53, 3) := by decide +kernel
theorem dX8_fillsOne_89 : decode cX8_fillsOne 89 = .ok (.aload_n 0, 1) := by decide +kernel
theorem dX8_fillsOne_90 : decode cX8_fillsOne 90 = .ok (.getfield 15, 3) := by decide +kernel
theorem dX8_fillsOne_93 : decode cX8_fillsOne 93 = .ok (.getfield 58, 3) := by decide +kernel
theorem dX8_fillsOne_96 : decode cX8_fillsOne 96 = .ok (.ifCond .ne 7, 3) := by decide +kernel
theorem dX8_fillsOne_99 : decode cX8_fillsOne 99 = .ok (.iconst 1, 1) := by decide +kernel
theorem dX8_fillsOne_100 : decode cX8_fillsOne 100 = .ok (.goto 4, 3) := by decide +kernel
theorem dX8_fillsOne_103 : decode cX8_fillsOne 103 = .ok (.iconst 0, 1) := by decide +kernel
theorem dX8_fillsOne_104 : decode cX8_fillsOne 104 = .ok (.ireturn, 1) := by decide +kernel
theorem dX8_fillsOne_105 : decode cX8_fillsOne 105 = .ok (.aload_n 0, 1) := by decide +kernel
theorem dX8_fillsOne_106 : decode cX8_fillsOne 106 = .ok (.getfield 19, 3) := by decide +kernel
theorem dX8_fillsOne_109 : decode cX8_fillsOne 109 = .ok (.aload_n 0, 1) := by decide +kernel
theorem dX8_fillsOne_110 : decode cX8_fillsOne 110 = .ok (.iconst 0, 1) := by decide +kernel
theorem dX8_fillsOne_111 : decode cX8_fillsOne 111 = .ok (.sipush 9999, 3) := by decide +kernel
theorem dX8_fillsOne_114 : decode cX8_fillsOne 114 = .ok (.invokevirtual 49, 3) := by decide +kernel
theorem dX8_fillsOne_117 : decode cX8_fillsOne 117 = .ok (.putfield 61, 3) := by decide +kernel
theorem dX8_fillsOne_120 : decode cX8_fillsOne 120 = .ok (.aload_n 0, 1) := by decide +kernel
theorem dX8_fillsOne_121 : decode cX8_fillsOne 121 = .ok (.getfield 15, 3) := by decide +kernel
theorem dX8_fillsOne_124 : decode cX8_fillsOne 124 = .ok (.getfield 58, 3) := by decide +kernel
theorem dX8_fillsOne_127 : decode cX8_fillsOne 127 = .ok (.ifCond .ne 7, 3) := by decide +kernel
theorem dX8_fillsOne_130 : decode cX8_fillsOne 130 = .ok (.iconst 1, 1) := by decide +kernel
theorem dX8_fillsOne_131 : decode cX8_fillsOne 131 = .ok (.goto 4, 3) := by decide +kernel
theorem dX8_fillsOne_134 : decode cX8_fillsOne 134 = .ok (.iconst 0, 1) := by decide +kernel
theorem dX8_fillsOne_135 : decode cX8_fillsOne 135 = .ok (.ireturn, 1) := by decide +kernel
theorem dX8_fillsOne_136 : decode cX8_fillsOne 136 = .ok (.iconst 1, 1) := by decide +kernel
theorem dX8_fillsOne_137 : decode cX8_fillsOne 137 = .ok (.ireturn, 1) := by decide +kernel
theorem dX8_passSemicolon_0 : decode cX8_passSemicolon 0 = .ok (.iconst 0, 1) := by decide +kernel
theorem dX8_passSemicolon_1 : decode cX8_passSemicolon 1 = .ok (.istore_n 1, 1) := by decide +kernel
theorem dX8_passSemicolon_2 : decode cX8_passSemicolon 2 = .ok (.iload_n 1, 1) := by decide +kernel
theorem dX8_passSemicolon_3 : decode cX8_passSemicolon 3 = .ok (.sipush 400, 3) := by decide +kernel
theorem dX8_passSemicolon_6 : decode cX8_passSemicolon 6 = .ok (.if_icmp .gt 44, 3) := by decide +kernel
theorem dX8_passSemicolon_9 : decode cX8_passSemicolon 9 = .ok (.aload_n 0, 1) := by decide +kernel
theorem dX8_passSemicolon_10 : decode cX8_passSemicolon 10 = .ok (.getfield 9, 3) := by decide +kernel
theorem dX8_passSemicolon_13 : decode cX8_passSemicolon 13 = .ok (.sipush 400, 3) := by decide +kernel
theorem dX8_passSemicolon_16 : decode cX8_passSemicolon 16 = .ok (.if_icmp .ge 34, 3) := by decide +kernel
theorem dX8_passSemicolon_19 : decode cX8_passSemicolon 19 = .ok (.aload_n 0, 1) := by decide +kernel
theorem dX8_passSemicolon_20 : decode cX8_passSemicolon 20 = .ok (.getfield 15, 3) := by decide +kernel
theorem dX8_passSemicolon_23 : decode cX8_passSemicolon 23 = .ok (.aload_n 0, 1) := by decide +kernel
theorem dX8_passSemicolon_24 : decode cX8_passSemicolon 24 = .ok (.getfield 9, 3) := by decide +kernel
theorem dX8_passSemicolon_27 : decode cX8_passSemicolon 27 = .ok (.invokevirtual 23, 3) := by decide +kernel
theorem dX8_passSemicolon_30 : decode cX8_passSemicolon 30 = .ok (.iconst 4, 1) := by decide +kernel
theorem dX8_passSemicolon_31 : decode cX8_passSemicolon 31 = .ok (.if_icmp .eq 19, 3) := by decide +kernel
theorem dX8_passSemicolon_34 : decode cX8_passSemicolon 34 = .ok (.aload_n 0, 1) := by decide +kernel
theorem dX8_passSemicolon_35 : decode cX8_passSemicolon 35 = .ok (.dup, 1) := by decide +kernel
theorem dX8_passSemicolon_36 : decode cX8_passSemicolon 36 = .ok (.getfield 9, 3) := by decide +kernel
theorem dX8_passSemicolon_39 : decode cX8_passSemicolon 39 = .ok (.iconst 1, 1) := by decide +kernel
theorem dX8_passSemicolon_40 : decode cX8_passSemicolon 40 = .ok (.iadd, 1) := by decide +kernel
theorem dX8_passSemicolon_41 : decode cX8_passSemicolon 41 = .ok (.putfield 9, 3) := by decide +kernel
theorem dX8_passSemicolon_44 : decode cX8_passSemicolon 44 = .ok (.iinc 1 1, 3) := by decide +kernel
theorem dX8_passSemicolon_47 : decode cX8_passSemicolon 47 = .ok (.goto (-45), 3) := by decide +kernel
theorem dX8_passSemicolon_50 : decode cX8_passSemicolon 50 = .ok (.aload_n 0, 1) := by decide +kernel
theorem dX8_passSemicolon_51 : decode cX8_passSemicolon 51 = .ok (.aload_n 0, 1) := by decide +kernel
theorem dX8_passSemicolon_52 : decode cX8_passSemicolon 52 = .ok (.getfield 9, 3) := by decide +kernel
theorem dX8_passSemicolon_55 : decode cX8_passSemicolon 55 = .ok (.iconst 1, 1) := by decide +kernel
theorem dX8_passSemicolon_56 : decode cX8_passSemicolon 56 = .ok (.iadd, 1) := by decide +kernel
theorem dX8_passSemicolon_57 : decode cX8_passSemicolon 57 = .ok (.sipush 400, 3) := by decide +kernel
theorem dX8_passSemicolon_60 : decode cX8_passSemicolon 60 = .ok (.invokestatic 64, 3) := by decide +kernel
theorem dX8_passSemicolon_63 : decode cX8_passSemicolon 63 = .ok (.putfield 9, 3) := by decide +kernel
theorem dX8_passSemicolon_66 : decode cX8_passSemicolon 66 = .ok (.return_, 1) := by decide +kernel
theorem dX8_fillsPerson_0 : decode cX8_fillsPerson 0 = .ok (.aload_n 0, 1) := by decide +kernel
theorem dX8_fillsPerson_1 : decode cX8_fillsPerson 1 = .ok (.getfield 19, 3) := by decide +kernel
theorem dX8_fillsPerson_4 : decode cX8_fillsPerson 4 = .ok (.getfield 69, 3) := by decide +kernel
theorem dX8_fillsPerson_7 : decode cX8_fillsPerson 7 = .ok (.istore_n 1, 1) := by decide +kernel
theorem dX8_fillsPerson_8 : decode cX8_fillsPerson 8 = .ok (.iload_n 1, 1) := by decide +kernel
theorem dX8_fillsPerson_9 : decode cX8_fillsPerson 9 = .ok (.bipush 6, 2) := by decide +kernel
theorem dX8_fillsPerson_11 : decode cX8_fillsPerson 11 = .ok (.if_icmp .ge 13, 3) := by decide +kernel
theorem dX8_fillsPerson_14 : decode cX8_fillsPerson 14 = .ok (.aload_n 0, 1) := by decide +kernel
theorem dX8_fillsPerson_15 : decode cX8_fillsPerson 15 = .ok (.bipush 13, 2) := by decide +kernel
theorem dX8_fillsPerson_17 : decode cX8_fillsPerson 17 = .ok (.iload_n 1, 1) := by decide +kernel
theorem dX8_fillsPerson_18 : decode cX8_fillsPerson 18 = .ok (.invokevirtual 72, 3) := by decide +kernel
theorem dX8_fillsPerson_21 : decode cX8_fillsPerson 21 = .ok (.ifCond .ne 5, 3) := by decide +kernel
theorem dX8_fillsPerson_24 : decode cX8_fillsPerson 24 = .ok (.iconst 0, 1) := by decide +kernel
theorem dX8_fillsPerson_25 : decode cX8_fillsPerson 25 = .ok (.ireturn, 1) := by decide +kernel
theorem dX8_fillsPerson_26 : decode cX8_fillsPerson 26 = .ok (.aload_n 0, 1) := by decide +kernel
theorem dX8_fillsPerson_27 : decode cX8_fillsPerson 27 = .ok (.getfield 19, 3) := by decide +kernel
theorem dX8_fillsPerson_30 : decode cX8_fillsPerson 30 = .ok (.dup, 1) := by decide +kernel
theorem dX8_fillsPerson_31 : decode cX8_fillsPerson 31 = .ok (.getfield 69, 3) := by decide +kernel
theorem dX8_fillsPerson_34 : decode cX8_fillsPerson 34 = .ok (.iconst 1, 1) := by decide +kernel
theorem dX8_fillsPerson_35 : decode cX8_fillsPerson 35 = .ok (.iadd, 1) := by decide +kernel
theorem dX8_fillsPerson_36 : decode cX8_fillsPerson 36 = .ok (.putfield 69, 3) := by decide +kernel
theorem dX8_fillsPerson_39 : decode cX8_fillsPerson 39 = .ok (.iconst 1, 1) := by decide +kernel
theorem dX8_fillsPerson_40 : decode cX8_fillsPerson 40 = .ok (.ireturn, 1) := by decide +kernel
theorem dX8_fillsPlot_0 : decode cX8_fillsPlot 0 = .ok (.aload_n 0, 1) := by decide +kernel
theorem dX8_fillsPlot_1 : decode cX8_fillsPlot 1 = .ok (.getfield 19, 3) := by decide +kernel
theorem dX8_fillsPlot_4 : decode cX8_fillsPlot 4 = .ok (.getfield 76, 3) := by decide +kernel
theorem dX8_fillsPlot_7 : decode cX8_fillsPlot 7 = .ok (.istore_n 1, 1) := by decide +kernel
theorem dX8_fillsPlot_8 : decode cX8_fillsPlot 8 = .ok (.iload_n 1, 1) := by decide +kernel
theorem dX8_fillsPlot_9 : decode cX8_fillsPlot 9 = .ok (.bipush 7, 2) := by decide +kernel
theorem dX8_fillsPlot_11 : decode cX8_fillsPlot 11 = .ok (.if_icmp .ge 13, 3) := by decide +kernel
theorem dX8_fillsPlot_14 : decode cX8_fillsPlot 14 = .ok (.aload_n 0, 1) := by decide +kernel
theorem dX8_fillsPlot_15 : decode cX8_fillsPlot 15 = .ok (.bipush 14, 2) := by decide +kernel
theorem dX8_fillsPlot_17 : decode cX8_fillsPlot 17 = .ok (.iload_n 1, 1) := by decide +kernel
theorem dX8_fillsPlot_18 : decode cX8_fillsPlot 18 = .ok (.invokevirtual 72, 3) := by decide +kernel
theorem dX8_fillsPlot_21 : decode cX8_fillsPlot 21 = .ok (.ifCond .ne 5, 3) := by decide +kernel
theorem dX8_fillsPlot_24 : decode cX8_fillsPlot 24 = .ok (.iconst 0, 1) := by decide +kernel
theorem dX8_fillsPlot_25 : decode cX8_fillsPlot 25 = .ok (.ireturn, 1) := by decide +kernel
theorem dX8_fillsPlot_26 : decode cX8_fillsPlot 26 = .ok (.aload_n 0, 1) := by decide +kernel
theorem dX8_fillsPlot_27 : decode cX8_fillsPlot 27 = .ok (.getfield 19, 3) := by decide +kernel
theorem dX8_fillsPlot_30 : decode cX8_fillsPlot 30 = .ok (.getfield 79, 3) := by decide +kernel
theorem dX8_fillsPlot_33 : decode cX8_fillsPlot 33 = .ok (.iload_n 1, 1) := by decide +kernel
theorem dX8_fillsPlot_34 : decode cX8_fillsPlot 34 = .ok (.aload_n 0, 1) := by decide +kernel
theorem dX8_fillsPlot_35 : decode cX8_fillsPlot 35 = .ok (.iconst 0, 1) := by decide +kernel
theorem dX8_fillsPlot_36 : decode cX8_fillsPlot 36 = .ok (.bipush 9, 2) := by decide +kernel
theorem dX8_fillsPlot_38 : decode cX8_fillsPlot 38 = .ok (.invokevirtual 49, 3) := by decide +kernel
theorem dX8_fillsPlot_41 : decode cX8_fillsPlot 41 = .ok (.iastore, 1) := by decide +kernel
theorem dX8_fillsPlot_42 : decode cX8_fillsPlot 42 = .ok (.aload_n 0, 1) := by decide +kernel
theorem dX8_fillsPlot_43 : decode cX8_fillsPlot 43 = .ok (.getfield 19, 3) := by decide +kernel
theorem dX8_fillsPlot_46 : decode cX8_fillsPlot 46 = .ok (.getfield 83, 3) := by decide +kernel
theorem dX8_fillsPlot_49 : decode cX8_fillsPlot 49 = .ok (.iload_n 1, 1) := by decide +kernel
theorem dX8_fillsPlot_50 : decode cX8_fillsPlot 50 = .ok (.aload_n 0, 1) := by decide +kernel
theorem dX8_fillsPlot_51 : decode cX8_fillsPlot 51 = .ok (.iconst 0, 1) := by decide +kernel
theorem dX8_fillsPlot_52 : decode cX8_fillsPlot 52 = .ok (.bipush 9, 2) := by decide +kernel
theorem dX8_fillsPlot_54 : decode cX8_fillsPlot 54 = .ok (.invokevirtual 49, 3) := by decide +kernel
theorem dX8_fillsPlot_57 : decode cX8_fillsPlot 57 = .ok (.iastore, 1) := by decide +kernel
theorem dX8_fillsPlot_58 : decode cX8_fillsPlot 58 = .ok (.aload_n 0, 1) := by decide +kernel
theorem dX8_fillsPlot_59 : decode cX8_fillsPlot 59 = .ok (.getfield 19, 3) := by decide +kernel
theorem dX8_fillsPlot_62 : decode cX8_fillsPlot 62 = .ok (.getfield 86, 3) := by decide +kernel
theorem dX8_fillsPlot_65 : decode cX8_fillsPlot 65 = .ok (.iload_n 1, 1) := by decide +kernel
theorem dX8_fillsPlot_66 : decode cX8_fillsPlot 66 = .ok (.aload_n 0, 1) := by decide +kernel
theorem dX8_fillsPlot_67 : decode cX8_fillsPlot 67 = .ok (.bipush 13, 2) := by decide +kernel
theorem dX8_fillsPlot_69 : decode cX8_fillsPlot 69 = .ok (.invokevirtual 89, 3) := by decide +kernel
theorem dX8_fillsPlot_72 : decode cX8_fillsPlot 72 = .ok (.iastore, 1) := by decide +kernel
theorem dX8_fillsPlot_73 : decode cX8_fillsPlot 73 = .ok (.aload_n 0, 1) := by decide +kernel
theorem dX8_fillsPlot_74 : decode cX8_fillsPlot 74 = .ok (.getfield 19, 3) := by decide +kernel
theorem dX8_fillsPlot_77 : decode cX8_fillsPlot 77 = .ok (.dup, 1) := by decide +kernel
theorem dX8_fillsPlot_78 : decode cX8_fillsPlot 78 = .ok (.getfield 76, 3) := by decide +kernel
theorem dX8_fillsPlot_81 : decode cX8_fillsPlot 81 = .ok (.iconst 1, 1) := by decide +kernel
theorem dX8_fillsPlot_82 : decode cX8_fillsPlot 82 = .ok (.iadd, 1) := by decide +kernel
theorem dX8_fillsPlot_83 : decode cX8_fillsPlot 83 = .ok (.putfield 76, 3) := by decide +kernel
theorem dX8_fillsPlot_86 : decode cX8_fillsPlot 86 = .ok (.aload_n 0, 1) := by decide +kernel
theorem dX8_fillsPlot_87 : decode cX8_fillsPlot 87 = .ok (.getfield 15, 3) := by decide +kernel
theorem dX8_fillsPlot_90 : decode cX8_fillsPlot 90 = .ok (.getfield 58, 3) := by decide +kernel
theorem dX8_fillsPlot_93 : decode cX8_fillsPlot 93 = .ok (.ifCond .ne 7, 3) := by decide +kernel
theorem dX8_fillsPlot_96 : decode cX8_fillsPlot 96 = .ok (.iconst 1, 1) := by decide +kernel
theorem dX8_fillsPlot_97 : decode cX8_fillsPlot 97 = .ok (.goto 4, 3) := by decide +kernel
theorem dX8_fillsPlot_100 : decode cX8_fillsPlot 100 = .ok (.iconst 0, 1) := by decide +kernel
theorem dX8_fillsPlot_101 : decode cX8_fillsPlot 101 = .ok (.ireturn, 1) := by decide +kernel
theorem dX8_fillsWitness_0 : decode cX8_fillsWitness 0 = .ok (.aload_n 0, 1) := by decide +kernel
theorem dX8_fillsWitness_1 : decode cX8_fillsWitness 1 = .ok (.getfield 19, 3) := by decide +kernel
theorem dX8_fillsWitness_4 : decode cX8_fillsWitness 4 = .ok (.getfield 92, 3) := by decide +kernel
theorem dX8_fillsWitness_7 : decode cX8_fillsWitness 7 = .ok (.istore_n 1, 1) := by decide +kernel
theorem dX8_fillsWitness_8 : decode cX8_fillsWitness 8 = .ok (.iload_n 1, 1) := by decide +kernel
theorem dX8_fillsWitness_9 : decode cX8_fillsWitness 9 = .ok (.bipush 7, 2) := by decide +kernel
theorem dX8_fillsWitness_11 : decode cX8_fillsWitness 11 = .ok (.if_icmp .ge 13, 3) := by decide +kernel
theorem dX8_fillsWitness_14 : decode cX8_fillsWitness 14 = .ok (.aload_n 0, 1) := by decide +kernel
theorem dX8_fillsWitness_15 : decode cX8_fillsWitness 15 = .ok (.bipush 15, 2) := by decide +kernel
theorem dX8_fillsWitness_17 : decode cX8_fillsWitness 17 = .ok (.iload_n 1, 1) := by decide +kernel
theorem dX8_fillsWitness_18 : decode cX8_fillsWitness 18 = .ok (.invokevirtual 72, 3) := by decide +kernel
theorem dX8_fillsWitness_21 : decode cX8_fillsWitness 21 = .ok (.ifCond .ne 5, 3) := by decide +kernel
theorem dX8_fillsWitness_24 : decode cX8_fillsWitness 24 = .ok (.iconst 0, 1) := by decide +kernel
theorem dX8_fillsWitness_25 : decode cX8_fillsWitness 25 = .ok (.ireturn, 1) := by decide +kernel
theorem dX8_fillsWitness_26 : decode cX8_fillsWitness 26 = .ok (.aload_n 0, 1) := by decide +kernel
theorem dX8_fillsWitness_27 : decode cX8_fillsWitness 27 = .ok (.getfield 19, 3) := by decide +kernel
theorem dX8_fillsWitness_30 : decode cX8_fillsWitness 30 = .ok (.getfield 95, 3) := by decide +kernel
theorem dX8_fillsWitness_33 : decode cX8_fillsWitness 33 = .ok (.iload_n 1, 1) := by decide +kernel
theorem dX8_fillsWitness_34 : decode cX8_fillsWitness 34 = .ok (.aload_n 0, 1) := by decide +kernel
theorem dX8_fillsWitness_35 : decode cX8_fillsWitness 35 = .ok (.iconst 0, 1) := by decide +kernel
theorem dX8_fillsWitness_36 : decode cX8_fillsWitness 36 = .ok (.bipush 99, 2) := by decide +kernel
theorem dX8_fillsWitness_38 : decode cX8_fillsWitness 38 = .ok (.invokevirtual 49, 3) := by decide +kernel
theorem dX8_fillsWitness_41 : decode cX8_fillsWitness 41 = .ok (.iastore, 1) := by decide +kernel
theorem dX8_fillsWitness_42 : decode cX8_fillsWitness 42 = .ok (.aload_n 0, 1) := by decide +kernel
theorem dX8_fillsWitness_43 : decode cX8_fillsWitness 43 = .ok (.getfield 19, 3) := by decide +kernel
theorem dX8_fillsWitness_46 : decode cX8_fillsWitness 46 = .ok (.getfield 98, 3) := by decide +kernel
theorem dX8_fillsWitness_49 : decode cX8_fillsWitness 49 = .ok (.iload_n 1, 1) := by decide +kernel
theorem dX8_fillsWitness_50 : decode cX8_fillsWitness 50 = .ok (.aload_n 0, 1) := by decide +kernel
theorem dX8_fillsWitness_51 : decode cX8_fillsWitness 51 = .ok (.iconst 0, 1) := by decide +kernel
theorem dX8_fillsWitness_52 : decode cX8_fillsWitness 52 = .ok (.bipush 99, 2) := by decide +kernel
theorem dX8_fillsWitness_54 : decode cX8_fillsWitness 54 = .ok (.invokevirtual 49, 3) := by decide +kernel
theorem dX8_fillsWitness_57 : decode cX8_fillsWitness 57 = .ok (.iastore, 1) := by decide +kernel
theorem dX8_fillsWitness_58 : decode cX8_fillsWitness 58 = .ok (.aload_n 0, 1) := by decide +kernel
theorem dX8_fillsWitness_59 : decode cX8_fillsWitness 59 = .ok (.getfield 19, 3) := by decide +kernel
theorem dX8_fillsWitness_62 : decode cX8_fillsWitness 62 = .ok (.dup, 1) := by decide +kernel
theorem dX8_fillsWitness_63 : decode cX8_fillsWitness 63 = .ok (.getfield 92, 3) := by decide +kernel
theorem dX8_fillsWitness_66 : decode cX8_fillsWitness 66 = .ok (.iconst 1, 1) := by decide +kernel
theorem dX8_fillsWitness_67 : decode cX8_fillsWitness 67 = .ok (.iadd, 1) := by decide +kernel
theorem dX8_fillsWitness_68 : decode cX8_fillsWitness 68 = .ok (.putfield 92, 3) := by decide +kernel
theorem dX8_fillsWitness_71 : decode cX8_fillsWitness 71 = .ok (.aload_n 0, 1) := by decide +kernel
theorem dX8_fillsWitness_72 : decode cX8_fillsWitness 72 = .ok (.getfield 15, 3) := by decide +kernel
theorem dX8_fillsWitness_75 : decode cX8_fillsWitness 75 = .ok (.getfield 58, 3) := by decide +kernel
theorem dX8_fillsWitness_78 : decode cX8_fillsWitness 78 = .ok (.ifCond .ne 7, 3) := by decide +kernel
theorem dX8_fillsWitness_81 : decode cX8_fillsWitness 81 = .ok (.iconst 1, 1) := by decide +kernel
theorem dX8_fillsWitness_82 : decode cX8_fillsWitness 82 = .ok (.goto 4, 3) := by decide +kernel
theorem dX8_fillsWitness_85 : decode cX8_fillsWitness 85 = .ok (.iconst 0, 1) := by decide +kernel
theorem dX8_fillsWitness_86 : decode cX8_fillsWitness 86 = .ok (.ireturn, 1) := by decide +kernel
theorem dX8_fillsGiving_0 : decode cX8_fillsGiving 0 = .ok (.aload_n 0, 1) := by decide +kernel
theorem dX8_fillsGiving_1 : decode cX8_fillsGiving 1 = .ok (.bipush 14, 2) := by decide +kernel
theorem dX8_fillsGiving_3 : decode cX8_fillsGiving 3 = .ok (.invokevirtual 89, 3) := by decide +kernel
theorem dX8_fillsGiving_6 : decode cX8_fillsGiving 6 = .ok (.istore_n 1, 1) := by decide +kernel
theorem dX8_fillsGiving_7 : decode cX8_fillsGiving 7 = .ok (.aload_n 0, 1) := by decide +kernel
theorem dX8_fillsGiving_8 : decode cX8_fillsGiving 8 = .ok (.bipush 13, 2) := by decide +kernel
theorem dX8_fillsGiving_10 : decode cX8_fillsGiving 10 = .ok (.invokevirtual 89, 3) := by decide +kernel
theorem dX8_fillsGiving_13 : decode cX8_fillsGiving 13 = .ok (.istore_n 2, 1) := by decide +kernel
theorem dX8_fillsGiving_14 : decode cX8_fillsGiving 14 = .ok (.aload_n 0, 1) := by decide +kernel
theorem dX8_fillsGiving_15 : decode cX8_fillsGiving 15 = .ok (.bipush 13, 2) := by decide +kernel
theorem dX8_fillsGiving_17 : decode cX8_fillsGiving 17 = .ok (.invokevirtual 89, 3) := by decide +kernel
theorem dX8_fillsGiving_20 : decode cX8_fillsGiving 20 = .ok (.istore_n 3, 1) := by decide +kernel
theorem dX8_fillsGiving_21 : decode cX8_fillsGiving 21 = .ok (.aload_n 0, 1) := by decide +kernel
theorem dX8_fillsGiving_22 : decode cX8_fillsGiving 22 = .ok (.getfield 15, 3) := by decide +kernel
theorem dX8_fillsGiving_25 : decode cX8_fillsGiving 25 = .ok (.getfield 58, 3) := by decide +kernel
theorem dX8_fillsGiving_28 : decode cX8_fillsGiving 28 = .ok (.ifCond .ne 23, 3) := by decide +kernel
theorem dX8_fillsGiving_31 : decode cX8_fillsGiving 31 = .ok (.iload_n 2, 1) := by decide +kernel
theorem dX8_fillsGiving_32 : decode cX8_fillsGiving 32 = .ok (.iload_n 3, 1) := by decide +kernel
theorem dX8_fillsGiving_33 : decode cX8_fillsGiving 33 = .ok (.if_icmp .ne 18, 3) := by decide +kernel
theorem dX8_fillsGiving_36 : decode cX8_fillsGiving 36 = .ok (.aload_n 0, 1) := by decide +kernel
theorem dX8_fillsGiving_37 : decode cX8_fillsGiving 37 = .ok (.getfield 15, 3) := by decide +kernel
theorem dX8_fillsGiving_40 : decode cX8_fillsGiving 40 = .ok (.iconst 3, 1) := by decide +kernel
theorem dX8_fillsGiving_41 : decode cX8_fillsGiving 41 = .ok (.aload_n 0, 1) := by decide +kernel
theorem dX8_fillsGiving_42 : decode cX8_fillsGiving 42 = .ok (.getfield 9, 3) := by decide +kernel
theorem dX8_fillsGiving_45 : decode cX8_fillsGiving 45 = .ok (.iconst 1, 1) := by decide +kernel
theorem dX8_fillsGiving_46 : decode cX8_fillsGiving 46 = .ok (.isub, 1) := by decide +kernel
theorem dX8_fillsGiving_47 : decode cX8_fillsGiving 47 = .ok (.invokevirtual 101, 3) := by decide +kernel
theorem dX8_fillsGiving_50 : decode cX8_fillsGiving 50 = .ok (.ireturn, 1) := by decide +kernel
theorem dX8_fillsGiving_51 : decode cX8_fillsGiving 51 = .ok (.aload_n 0, 1) := by decide +kernel
theorem dX8_fillsGiving_52 : decode cX8_fillsGiving 52 = .ok (.iconst 0, 1) := by decide +kernel
theorem dX8_fillsGiving_53 : decode cX8_fillsGiving 53 = .ok (.bipush 99, 2) := by decide +kernel
theorem dX8_fillsGiving_55 : decode cX8_fillsGiving 55 = .ok (.invokevirtual 49, 3) := by decide +kernel
theorem dX8_fillsGiving_58 : decode cX8_fillsGiving 58 = .ok (.istore 4, 2) := by decide +kernel
theorem dX8_fillsGiving_60 : decode cX8_fillsGiving 60 = .ok (.iconst 0, 1) := by decide +kernel
theorem dX8_fillsGiving_61 : decode cX8_fillsGiving 61 = .ok (.istore 5, 2) := by decide +kernel
theorem dX8_fillsGiving_63 : decode cX8_fillsGiving 63 = .ok (.iconst 0, 1) := by decide +kernel
theorem dX8_fillsGiving_64 : decode cX8_fillsGiving 64 = .ok (.istore 6, 2) := by decide +kernel
theorem dX8_fillsGiving_66 : decode cX8_fillsGiving 66 = .ok (.iload 6, 2) := by decide +kernel
theorem dX8_fillsGiving_68 : decode cX8_fillsGiving 68 = .ok (.sipush 400, 3) := by decide +kernel
theorem dX8_fillsGiving_71 : decode cX8_fillsGiving 71 = .ok (.if_icmp .gt 84, 3) := by decide +kernel
theorem dX8_fillsGiving_74 : decode cX8_fillsGiving 74 = .ok (.aload_n 0, 1) := by decide +kernel
theorem dX8_fillsGiving_75 : decode cX8_fillsGiving 75 = .ok (.getfield 15, 3) := by decide +kernel
theorem dX8_fillsGiving_78 : decode cX8_fillsGiving 78 = .ok (.getfield 58, 3) := by decide +kernel
theorem dX8_fillsGiving_81 : decode cX8_fillsGiving 81 = .ok (.ifCond .ne 74, 3) := by decide +kernel
theorem dX8_fillsGiving_84 : decode cX8_fillsGiving 84 = .ok (.aload_n 0, 1) := by decide +kernel
theorem dX8_fillsGiving_85 : decode cX8_fillsGiving 85 = .ok (.getfield 15, 3) := by decide +kernel
theorem dX8_fillsGiving_88 : decode cX8_fillsGiving 88 = .ok (.aload_n 0, 1) := by decide +kernel
theorem dX8_fillsGiving_89 : decode cX8_fillsGiving 89 = .ok (.getfield 9, 3) := by decide +kernel
theorem dX8_fillsGiving_92 : decode cX8_fillsGiving 92 = .ok (.invokevirtual 23, 3) := by decide +kernel
theorem dX8_fillsGiving_95 : decode cX8_fillsGiving 95 = .ok (.iconst 2, 1) := by decide +kernel
theorem dX8_fillsGiving_96 : decode cX8_fillsGiving 96 = .ok (.if_icmp .ne 59, 3) := by decide +kernel
theorem dX8_fillsGiving_99 : decode cX8_fillsGiving 99 = .ok (.iconst 1, 1) := by decide +kernel
theorem dX8_fillsGiving_100 : decode cX8_fillsGiving 100 = .ok (.aload_n 0, 1) := by decide +kernel
theorem dX8_fillsGiving_101 : decode cX8_fillsGiving 101 = .ok (.bipush 15, 2) := by decide +kernel
theorem dX8_fillsGiving_103 : decode cX8_fillsGiving 103 = .ok (.invokevirtual 89, 3) := by decide +kernel
theorem dX8_fillsGiving_106 : decode cX8_fillsGiving 106 = .ok (.ishl, 1) := by decide +kernel
theorem dX8_fillsGiving_107 : decode cX8_fillsGiving 107 = .ok (.istore 7, 2) := by decide +kernel
theorem dX8_fillsGiving_109 : decode cX8_fillsGiving 109 = .ok (.aload_n 0, 1) := by decide +kernel
theorem dX8_fillsGiving_110 : decode cX8_fillsGiving 110 = .ok (.getfield 15, 3) := by decide +kernel
theorem dX8_fillsGiving_113 : decode cX8_fillsGiving 113 = .ok (.getfield 58, 3) := by decide +kernel
theorem dX8_fillsGiving_116 : decode cX8_fillsGiving 116 = .ok (.ifCond .ne 26, 3) := by decide +kernel
theorem dX8_fillsGiving_119 : decode cX8_fillsGiving 119 = .ok (.iload 5, 2) := by decide +kernel
theorem dX8_fillsGiving_121 : decode cX8_fillsGiving 121 = .ok (.iload 7, 2) := by decide +kernel
theorem dX8_fillsGiving_123 : decode cX8_fillsGiving 123 = .ok (.iand, 1) := by decide +kernel
theorem dX8_fillsGiving_124 : decode cX8_fillsGiving 124 = .ok (.ifCond .eq 18, 3) := by decide +kernel
theorem dX8_fillsGiving_127 : decode cX8_fillsGiving 127 = .ok (.aload_n 0, 1) := by decide +kernel
theorem dX8_fillsGiving_128 : decode cX8_fillsGiving 128 = .ok (.getfield 15, 3) := by decide +kernel
theorem dX8_fillsGiving_131 : decode cX8_fillsGiving 131 = .ok (.iconst 3, 1) := by decide +kernel
theorem dX8_fillsGiving_132 : decode cX8_fillsGiving 132 = .ok (.aload_n 0, 1) := by decide +kernel
theorem dX8_fillsGiving_133 : decode cX8_fillsGiving 133 = .ok (.getfield 9, 3) := by decide +kernel
theorem dX8_fillsGiving_136 : decode cX8_fillsGiving 136 = .ok (.iconst 1, 1) := by decide +kernel
theorem dX8_fillsGiving_137 : decode cX8_fillsGiving 137 = .ok (.isub, 1) := by decide +kernel
theorem dX8_fillsGiving_138 : decode cX8_fillsGiving 138 = .ok (.invokevirtual 101, 3) := by decide +kernel
theorem dX8_fillsGiving_141 : decode cX8_fillsGiving 141 = .ok (.ireturn, 1) := by decide +kernel
theorem dX8_fillsGiving_142 : decode cX8_fillsGiving 142 = .ok (.iload 5, 2) := by decide +kernel
theorem dX8_fillsGiving_144 : decode cX8_fillsGiving 144 = .ok (.iload 7, 2) := by decide +kernel
theorem dX8_fillsGiving_146 : decode cX8_fillsGiving 146 = .ok (.ior, 1) := by decide +kernel
theorem dX8_fillsGiving_147 : decode cX8_fillsGiving 147 = .ok (.istore 5, 2) := by decide +kernel
theorem dX8_fillsGiving_149 : decode cX8_fillsGiving 149 = .ok (.iinc 6 1, 3) := by decide +kernel
theorem dX8_fillsGiving_152 : decode cX8_fillsGiving 152 = .ok (.goto (-86), 3) := by decide +kernel
theorem dX8_fillsGiving_155 : decode cX8_fillsGiving 155 = .ok (.aload_n 0, 1) := by decide +kernel
theorem dX8_fillsGiving_156 : decode cX8_fillsGiving 156 = .ok (.getfield 15, 3) := by decide +kernel
theorem dX8_fillsGiving_159 : decode cX8_fillsGiving 159 = .ok (.getfield 58, 3) := by decide +kernel
theorem dX8_fillsGiving_162 : decode cX8_fillsGiving 162 = .ok (.ifCond .ne 15, 3) := by decide +kernel
theorem dX8_fillsGiving_165 : decode cX8_fillsGiving 165 = .ok (.aload_n 0, 1) := by decide +kernel
theorem dX8_fillsGiving_166 : decode cX8_fillsGiving 166 = .ok (.getfield 19, 3) := by decide +kernel
theorem dX8_fillsGiving_169 : decode cX8_fillsGiving 169 = .ok (.getfield 104, 3) := by decide +kernel
theorem dX8_fillsGiving_172 : decode cX8_fillsGiving 172 = .ok (.bipush 12, 2) := by decide +kernel
theorem dX8_fillsGiving_174 : decode cX8_fillsGiving 174 = .ok (.if_icmp .lt 5, 3) := by decide +kernel
theorem dX8_fillsGiving_177 : decode cX8_fillsGiving 177 = .ok (.iconst 0, 1) := by decide +kernel
theorem dX8_fillsGiving_178 : decode cX8_fillsGiving 178 = .ok (.ireturn, 1) := by decide +kernel
theorem dX8_fillsGiving_179 : decode cX8_fillsGiving 179 = .ok (.aload_n 0, 1) := by decide +kernel
theorem dX8_fillsGiving_180 : decode cX8_fillsGiving 180 = .ok (.getfield 19, 3) := by decide +kernel
theorem dX8_fillsGiving_183 : decode cX8_fillsGiving 183 = .ok (.getfield 107, 3) := by decide +kernel
theorem dX8_fillsGiving_186 : decode cX8_fillsGiving 186 = .ok (.aload_n 0, 1) := by decide +kernel
theorem dX8_fillsGiving_187 : decode cX8_fillsGiving 187 = .ok (.getfield 19, 3) := by decide +kernel
theorem dX8_fillsGiving_190 : decode cX8_fillsGiving 190 = .ok (.getfield 104, 3) := by decide +kernel
theorem dX8_fillsGiving_193 : decode cX8_fillsGiving 193 = .ok (.iload_n 1, 1) := by decide +kernel
theorem dX8_fillsGiving_194 : decode cX8_fillsGiving 194 = .ok (.iload_n 2, 1) := by decide +kernel
theorem dX8_fillsGiving_195 : decode cX8_fillsGiving 195 = .ok (.iload_n 3, 1) := by decide +kernel
theorem dX8_fillsGiving_196 : decode cX8_fillsGiving 196 = .ok (.iload 4, 2) := by decide +kernel
theorem dX8_fillsGiving_198 : decode cX8_fillsGiving 198 = .ok (.ineg, 1) := by decide +kernel
theorem dX8_fillsGiving_199 : decode cX8_fillsGiving 199 = .ok (.iload 5, 2) := by decide +kernel
theorem dX8_fillsGiving_201 : decode cX8_fillsGiving 201 = .ok (.invokevirtual 111, 3) := by decide +kernel
theorem dX8_fillsGiving_204 : decode cX8_fillsGiving 204 = .ok (.aload_n 0, 1) := by decide +kernel
theorem dX8_fillsGiving_205 : decode cX8_fillsGiving 205 = .ok (.getfield 19, 3) := by decide +kernel
theorem dX8_fillsGiving_208 : decode cX8_fillsGiving 208 = .ok (.dup, 1) := by decide +kernel
theorem dX8_fillsGiving_209 : decode cX8_fillsGiving 209 = .ok (.getfield 104, 3) := by decide +kernel
theorem dX8_fillsGiving_212 : decode cX8_fillsGiving 212 = .ok (.iconst 1, 1) := by decide +kernel
theorem dX8_fillsGiving_213 : decode cX8_fillsGiving 213 = .ok (.iadd, 1) := by decide +kernel
theorem dX8_fillsGiving_214 : decode cX8_fillsGiving 214 = .ok (.putfield 104, 3) := by decide +kernel
theorem dX8_fillsGiving_217 : decode cX8_fillsGiving 217 = .ok (.iconst 1, 1) := by decide +kernel
theorem dX8_fillsGiving_218 : decode cX8_fillsGiving 218 = .ok (.ireturn, 1) := by decide +kernel
theorem dX8_takeNumber_0 : decode cX8_takeNumber 0 = .ok (.aload_n 0, 1) := by decide +kernel
theorem dX8_takeNumber_1 : decode cX8_takeNumber 1 = .ok (.getfield 15, 3) := by decide +kernel
theorem dX8_takeNumber_4 : decode cX8_takeNumber 4 = .ok (.getfield 58, 3) := by decide +kernel
theorem dX8_takeNumber_7 : decode cX8_takeNumber 7 = .ok (.ifCond .ne 13, 3) := by decide +kernel
theorem dX8_takeNumber_10 : decode cX8_takeNumber 10 = .ok (.aload_n 0, 1) := by decide +kernel
theorem dX8_takeNumber_11 : decode cX8_takeNumber 11 = .ok (.getfield 9, 3) := by decide +kernel
theorem dX8_takeNumber_14 : decode cX8_takeNumber 14 = .ok (.sipush 400, 3) := by decide +kernel
theorem dX8_takeNumber_17 : decode cX8_takeNumber 17 = .ok (.if_icmp .lt 5, 3) := by decide +kernel
theorem dX8_takeNumber_20 : decode cX8_takeNumber 20 = .ok (.iload_n 1, 1) := by decide +kernel
theorem dX8_takeNumber_21 : decode cX8_takeNumber 21 = .ok (.ireturn, 1) := by decide +kernel
theorem dX8_takeNumber_22 : decode cX8_takeNumber 22 = .ok (.aload_n 0, 1) := by decide +kernel
theorem dX8_takeNumber_23 : decode cX8_takeNumber 23 = .ok (.getfield 15, 3) := by decide +kernel
theorem dX8_takeNumber_26 : decode cX8_takeNumber 26 = .ok (.aload_n 0, 1) := by decide +kernel
theorem dX8_takeNumber_27 : decode cX8_takeNumber 27 = .ok (.getfield 9, 3) := by decide +kernel
theorem dX8_takeNumber_30 : decode cX8_takeNumber 30 = .ok (.invokevirtual 117, 3) := by decide +kernel
theorem dX8_takeNumber_33 : decode cX8_takeNumber 33 = .ok (.lstore_n 3, 1) := by decide +kernel
theorem dX8_takeNumber_34 : decode cX8_takeNumber 34 = .ok (.lload_n 3, 1) := by decide +kernel
theorem dX8_takeNumber_35 : decode cX8_takeNumber 35 = .ok (.iload_n 1, 1) := by decide +kernel
theorem dX8_takeNumber_36 : decode cX8_takeNumber 36 = .ok (.i2l, 1) := by decide +kernel
theorem dX8_takeNumber_37 : decode cX8_takeNumber 37 = .ok (.lcmp, 1) := by decide +kernel
theorem dX8_takeNumber_38 : decode cX8_takeNumber 38 = .ok (.ifCond .lt 10, 3) := by decide +kernel
theorem dX8_takeNumber_41 : decode cX8_takeNumber 41 = .ok (.lload_n 3, 1) := by decide +kernel
theorem dX8_takeNumber_42 : decode cX8_takeNumber 42 = .ok (.iload_n 2, 1) := by decide +kernel
theorem dX8_takeNumber_43 : decode cX8_takeNumber 43 = .ok (.i2l, 1) := by decide +kernel
theorem dX8_takeNumber_44 : decode cX8_takeNumber 44 = .ok (.lcmp, 1) := by decide +kernel
theorem dX8_takeNumber_45 : decode cX8_takeNumber 45 = .ok (.ifCond .le 18, 3) := by decide +kernel
theorem dX8_takeNumber_48 : decode cX8_takeNumber 48 = .ok (.aload_n 0, 1) := by decide +kernel
theorem dX8_takeNumber_49 : decode cX8_takeNumber 49 = .ok (.getfield 15, 3) := by decide +kernel
theorem dX8_takeNumber_52 : decode cX8_takeNumber 52 = .ok (.iconst 5, 1) := by decide +kernel
theorem dX8_takeNumber_53 : decode cX8_takeNumber 53 = .ok (.aload_n 0, 1) := by decide +kernel
theorem dX8_takeNumber_54 : decode cX8_takeNumber 54 = .ok (.getfield 9, 3) := by decide +kernel
theorem dX8_takeNumber_57 : decode cX8_takeNumber 57 = .ok (.invokevirtual 101, 3) := by decide +kernel
theorem dX8_takeNumber_60 : decode cX8_takeNumber 60 = .ok (.pop, 1) := by decide +kernel
theorem dX8_takeNumber_61 : decode cX8_takeNumber 61 = .ok (.iload_n 1, 1) := by decide +kernel
theorem dX8_takeNumber_62 : decode cX8_takeNumber 62 = .ok (.ireturn, 1) := by decide +kernel
theorem dX8_takeNumber_63 : decode cX8_takeNumber 63 = .ok (.aload_n 0, 1) := by decide +kernel
theorem dX8_takeNumber_64 : decode cX8_takeNumber 64 = .ok (.dup, 1) := by decide +kernel
theorem dX8_takeNumber_65 : decode cX8_takeNumber 65 = .ok (.getfield 9, 3) := by decide +kernel
theorem dX8_takeNumber_68 : decode cX8_takeNumber 68 = .ok (.iconst 1, 1) := by decide +kernel
theorem dX8_takeNumber_69 : decode cX8_takeNumber 69 = .ok (.iadd, 1) := by decide +kernel
theorem dX8_takeNumber_70 : decode cX8_takeNumber 70 = .ok (.putfield 9, 3) := by decide +kernel
theorem dX8_takeNumber_73 : decode cX8_takeNumber 73 = .ok (.lload_n 3, 1) := by decide +kernel
theorem dX8_takeNumber_74 : decode cX8_takeNumber 74 = .ok (.l2i, 1) := by decide +kernel
theorem dX8_takeNumber_75 : decode cX8_takeNumber 75 = .ok (.ireturn, 1) := by decide +kernel
theorem dX8_takeNewName_0 : decode cX8_takeNewName 0 = .ok (.aload_n 0, 1) := by decide +kernel
theorem dX8_takeNewName_1 : decode cX8_takeNewName 1 = .ok (.getfield 9, 3) := by decide +kernel
theorem dX8_takeNewName_4 : decode cX8_takeNewName 4 = .ok (.sipush 400, 3) := by decide +kernel
theorem dX8_takeNewName_7 : decode cX8_takeNewName 7 = .ok (.if_icmp .lt 5, 3) := by decide +kernel
theorem dX8_takeNewName_10 : decode cX8_takeNewName 10 = .ok (.iconst 0, 1) := by decide +kernel
theorem dX8_takeNewName_11 : decode cX8_takeNewName 11 = .ok (.ireturn, 1) := by decide +kernel
theorem dX8_takeNewName_12 : decode cX8_takeNewName 12 = .ok (.aload_n 0, 1) := by decide +kernel
theorem dX8_takeNewName_13 : decode cX8_takeNewName 13 = .ok (.getfield 19, 3) := by decide +kernel
theorem dX8_takeNewName_16 : decode cX8_takeNewName 16 = .ok (.aload_n 0, 1) := by decide +kernel
theorem dX8_takeNewName_17 : decode cX8_takeNewName 17 = .ok (.getfield 15, 3) := by decide +kernel
theorem dX8_takeNewName_20 : decode cX8_takeNewName 20 = .ok (.aload_n 0, 1) := by decide +kernel
theorem dX8_takeNewName_21 : decode cX8_takeNewName 21 = .ok (.getfield 9, 3) := by decide +kernel
theorem dX8_takeNewName_24 : decode cX8_takeNewName 24 = .ok (.invokevirtual 117, 3) := by decide +kernel
theorem dX8_takeNewName_27 : decode cX8_takeNewName 27 = .ok (.invokevirtual 121, 3) := by decide +kernel
theorem dX8_takeNewName_30 : decode cX8_takeNewName 30 = .ok (.iconst (-1), 1) := by decide +kernel
theorem dX8_takeNewName_31 : decode cX8_takeNewName 31 = .ok (.if_icmp .eq 16, 3) := by decide +kernel
theorem dX8_takeNewName_34 : decode cX8_takeNewName 34 = .ok (.aload_n 0, 1) := by decide +kernel
theorem dX8_takeNewName_35 : decode cX8_takeNewName 35 = .ok (.getfield 15, 3) := by decide +kernel
theorem dX8_takeNewName_38 : decode cX8_takeNewName 38 = .ok (.iconst 3, 1) := by decide +kernel
theorem dX8_takeNewName_39 : decode cX8_takeNewName 39 = .ok (.aload_n 0, 1) := by decide +kernel
theorem dX8_takeNewName_40 : decode cX8_takeNewName 40 = .ok (.getfield 9, 3) := by decide +kernel
theorem dX8_takeNewName_43 : decode cX8_takeNewName 43 = .ok (.invokevirtual 101, 3) := by decide +kernel
theorem dX8_takeNewName_46 : decode cX8_takeNewName 46 = .ok (.ireturn, 1) := by decide +kernel
theorem dX8_takeNewName_47 : decode cX8_takeNewName 47 = .ok (.aload_n 0, 1) := by decide +kernel
theorem dX8_takeNewName_48 : decode cX8_takeNewName 48 = .ok (.getfield 19, 3) := by decide +kernel
theorem dX8_takeNewName_51 : decode cX8_takeNewName 51 = .ok (.aload_n 0, 1) := by decide +kernel
theorem dX8_takeNewName_52 : decode cX8_takeNewName 52 = .ok (.getfield 15, 3) := by decide +kernel
theorem dX8_takeNewName_55 : decode cX8_takeNewName 55 = .ok (.aload_n 0, 1) := by decide +kernel
theorem dX8_takeNewName_56 : decode cX8_takeNewName 56 = .ok (.getfield 9, 3) := by decide +kernel
theorem dX8_takeNewName_59 : decode cX8_takeNewName 59 = .ok (.invokevirtual 117, 3) := by decide +kernel
theorem dX8_takeNewName_62 : decode cX8_takeNewName 62 = .ok (.iload_n 1, 1) := by decide +kernel
theorem dX8_takeNewName_63 : decode cX8_takeNewName 63 = .ok (.iload_n 2, 1) := by decide +kernel
theorem dX8_takeNewName_64 : decode cX8_takeNewName 64 = .ok (.invokevirtual 125, 3) := by decide +kernel
theorem dX8_takeNewName_67 : decode cX8_takeNewName 67 = .ok (.aload_n 0, 1) := by decide +kernel
theorem dX8_takeNewName_68 : decode cX8_takeNewName 68 = .ok (.dup, 1) := by decide +kernel
theorem dX8_takeNewName_69 : decode cX8_takeNewName 69 = .ok (.getfield 9, 3) := by decide +kernel
theorem dX8_takeNewName_72 : decode cX8_takeNewName 72 = .ok (.iconst 1, 1) := by decide +kernel
theorem dX8_takeNewName_73 : decode cX8_takeNewName 73 = .ok (.iadd, 1) := by decide +kernel
theorem dX8_takeNewName_74 : decode cX8_takeNewName 74 = .ok (.putfield 9, 3) := by decide +kernel
theorem dX8_takeNewName_77 : decode cX8_takeNewName 77 = .ok (.iconst 1, 1) := by decide +kernel
theorem dX8_takeNewName_78 : decode cX8_takeNewName 78 = .ok (.ireturn, 1) := by decide +kernel
theorem dX8_takeKnown_0 : decode cX8_takeKnown 0 = .ok (.aload_n 0, 1) := by decide +kernel
theorem dX8_takeKnown_1 : decode cX8_takeKnown 1 = .ok (.getfield 15, 3) := by decide +kernel
theorem dX8_takeKnown_4 : decode cX8_takeKnown 4 = .ok (.getfield 58, 3) := by decide +kernel
theorem dX8_takeKnown_7 : decode cX8_takeKnown 7 = .ok (.ifCond .ne 13, 3) := by decide +kernel
theorem dX8_takeKnown_10 : decode cX8_takeKnown 10 = .ok (.aload_n 0, 1) := by decide +kernel
theorem dX8_takeKnown_11 : decode cX8_takeKnown 11 = .ok (.getfield 9, 3) := by decide +kernel
theorem dX8_takeKnown_14 : decode cX8_takeKnown 14 = .ok (.sipush 400, 3) := by decide +kernel
theorem dX8_takeKnown_17 : decode cX8_takeKnown 17 = .ok (.if_icmp .lt 5, 3) := by decide +kernel
theorem dX8_takeKnown_20 : decode cX8_takeKnown 20 = .ok (.iconst 0, 1) := by decide +kernel
theorem dX8_takeKnown_21 : decode cX8_takeKnown 21 = .ok (.ireturn, 1) := by decide +kernel
theorem dX8_takeKnown_22 : decode cX8_takeKnown 22 = .ok (.aload_n 0, 1) := by decide +kernel
theorem dX8_takeKnown_23 : decode cX8_takeKnown 23 = .ok (.getfield 19, 3) := by decide +kernel
theorem dX8_takeKnown_26 : decode cX8_takeKnown 26 = .ok (.aload_n 0, 1) := by decide +kernel
theorem dX8_takeKnown_27 : decode cX8_takeKnown 27 = .ok (.getfield 15, 3) := by decide +kernel
theorem dX8_takeKnown_30 : decode cX8_takeKnown 30 = .ok (.aload_n 0, 1) := by decide +kernel
theorem dX8_takeKnown_31 : decode cX8_takeKnown 31 = .ok (.getfield 9, 3) := by decide +kernel
theorem dX8_takeKnown_34 : decode cX8_takeKnown 34 = .ok (.invokevirtual 117, 3) := by decide +kernel
theorem dX8_takeKnown_37 : decode cX8_takeKnown 37 = .ok (.iload_n 1, 1) := by decide +kernel
theorem dX8_takeKnown_38 : decode cX8_takeKnown 38 = .ok (.invokevirtual 129, 3) := by decide +kernel
theorem dX8_takeKnown_41 : decode cX8_takeKnown 41 = .ok (.istore_n 2, 1) := by decide +kernel
theorem dX8_takeKnown_42 : decode cX8_takeKnown 42 = .ok (.iload_n 2, 1) := by decide +kernel
theorem dX8_takeKnown_43 : decode cX8_takeKnown 43 = .ok (.iconst (-1), 1) := by decide +kernel
theorem dX8_takeKnown_44 : decode cX8_takeKnown 44 = .ok (.if_icmp .ne 18, 3) := by decide +kernel
theorem dX8_takeKnown_47 : decode cX8_takeKnown 47 = .ok (.aload_n 0, 1) := by decide +kernel
theorem dX8_takeKnown_48 : decode cX8_takeKnown 48 = .ok (.getfield 15, 3) := by decide +kernel
theorem dX8_takeKnown_51 : decode cX8_takeKnown 51 = .ok (.iconst 4, 1) := by decide +kernel
theorem dX8_takeKnown_52 : decode cX8_takeKnown 52 = .ok (.aload_n 0, 1) := by decide +kernel
theorem dX8_takeKnown_53 : decode cX8_takeKnown 53 = .ok (.getfield 9, 3) := by decide +kernel
theorem dX8_takeKnown_56 : decode cX8_takeKnown 56 = .ok (.invokevirtual 101, 3) := by decide +kernel
theorem dX8_takeKnown_59 : decode cX8_takeKnown 59 = .ok (.pop, 1) := by decide +kernel
theorem dX8_takeKnown_60 : decode cX8_takeKnown 60 = .ok (.iconst 0, 1) := by decide +kernel
theorem dX8_takeKnown_61 : decode cX8_takeKnown 61 = .ok (.ireturn, 1) := by decide +kernel
theorem dX8_takeKnown_62 : decode cX8_takeKnown 62 = .ok (.aload_n 0, 1) := by decide +kernel
theorem dX8_takeKnown_63 : decode cX8_takeKnown 63 = .ok (.dup, 1) := by decide +kernel
theorem dX8_takeKnown_64 : decode cX8_takeKnown 64 = .ok (.getfield 9, 3) := by decide +kernel
theorem dX8_takeKnown_67 : decode cX8_takeKnown 67 = .ok (.iconst 1, 1) := by decide +kernel
theorem dX8_takeKnown_68 : decode cX8_takeKnown 68 = .ok (.iadd, 1) := by decide +kernel
theorem dX8_takeKnown_69 : decode cX8_takeKnown 69 = .ok (.putfield 9, 3) := by decide +kernel
theorem dX8_takeKnown_72 : decode cX8_takeKnown 72 = .ok (.iload_n 2, 1) := by decide +kernel
theorem dX8_takeKnown_73 : decode cX8_takeKnown 73 = .ok (.ireturn, 1) := by decide +kernel
theorem dX9_init_0 : decode cX9_init 0 = .ok (.aload_n 0, 1) := by decide +kernel
theorem dX9_init_1 : decode cX9_init 1 = .ok (.invokespecial 3, 3) := by decide +kernel
theorem dX9_init_4 : decode cX9_init 4 = .ok (.aload_n 0, 1) := by decide +kernel
theorem dX9_init_5 : decode cX9_init 5 = .ok (.sipush 401, 3) := by decide +kernel
theorem dX9_init_8 : decode cX9_init 8 = .ok (.newarray .int, 2) := by decide +kernel
theorem dX9_init_10 : decode cX9_init 10 = .ok (.putfield 9, 3) := by decide +kernel
theorem dX9_init_13 : decode cX9_init 13 = .ok (.aload_n 0, 1) := by decide +kernel
theorem dX9_init_14 : decode cX9_init 14 = .ok (.sipush 401, 3) := by decide +kernel
theorem dX9_init_17 : decode cX9_init 17 = .ok (.newarray .int, 2) := by decide +kernel
theorem dX9_init_19 : decode cX9_init 19 = .ok (.putfield 15, 3) := by decide +kernel
theorem dX9_init_22 : decode cX9_init 22 = .ok (.aload_n 0, 1) := by decide +kernel
theorem dX9_init_23 : decode cX9_init 23 = .ok (.sipush 401, 3) := by decide +kernel
theorem dX9_init_26 : decode cX9_init 26 = .ok (.newarray .long, 2) := by decide +kernel
theorem dX9_init_28 : decode cX9_init 28 = .ok (.putfield 18, 3) := by decide +kernel
theorem dX9_init_31 : decode cX9_init 31 = .ok (.aload_n 0, 1) := by decide +kernel
theorem dX9_init_32 : decode cX9_init 32 = .ok (.bipush 22, 2) := by decide +kernel
theorem dX9_init_34 : decode cX9_init 34 = .ok (.newarray .long, 2) := by decide +kernel
theorem dX9_init_36 : decode cX9_init 36 = .ok (.putfield 22, 3) := by decide +kernel
theorem dX9_init_39 : decode cX9_init 39 = .ok (.aload_n 0, 1) := by decide +kernel
theorem dX9_init_40 : decode cX9_init 40 = .ok (.iconst 0, 1) := by decide +kernel
theorem dX9_init_41 : decode cX9_init 41 = .ok (.putfield 25, 3) := by decide +kernel
theorem dX9_init_44 : decode cX9_init 44 = .ok (.aload_n 0, 1) := by decide +kernel
theorem dX9_init_45 : decode cX9_init 45 = .ok (.iconst (-1), 1) := by decide +kernel
theorem dX9_init_46 : decode cX9_init 46 = .ok (.putfield 29, 3) := by decide +kernel
theorem dX9_init_49 : decode cX9_init 49 = .ok (.iconst 0, 1) := by decide +kernel
theorem dX9_init_50 : decode cX9_init 50 = .ok (.istore_n 1, 1) := by decide +kernel
theorem dX9_init_51 : decode cX9_init 51 = .ok (.iload_n 1, 1) := by decide +kernel
theorem dX9_init_52 : decode cX9_init 52 = .ok (.bipush 22, 2) := by decide +kernel
theorem dX9_init_54 : decode cX9_init 54 = .ok (.if_icmp .ge 57, 3) := by decide +kernel
theorem dX9_init_57 : decode cX9_init 57 = .ok (.iconst 0, 1) := by decide +kernel
theorem dX9_init_58 : decode cX9_init 58 = .ok (.istore_n 2, 1) := by decide +kernel
theorem dX9_init_59 : decode cX9_init 59 = .ok (.iload_n 2, 1) := by decide +kernel
theorem dX9_init_60 : decode cX9_init 60 = .ok (.bipush 8, 2) := by decide +kernel
theorem dX9_init_62 : decode cX9_init 62 = .ok (.if_icmp .ge 43, 3) := by decide +kernel
theorem dX9_init_65 : decode cX9_init 65 = .ok (.ldc 32, 2) := by decide +kernel
theorem dX9_init_67 : decode cX9_init 67 = .ok (.iload_n 1, 1) := by decide +kernel
theorem dX9_init_68 : decode cX9_init 68 = .ok (.bipush 8, 2) := by decide +kernel
theorem dX9_init_70 : decode cX9_init 70 = .ok (.imul, 1) := by decide +kernel
theorem dX9_init_71 : decode cX9_init 71 = .ok (.iload_n 2, 1) := by decide +kernel
theorem dX9_init_72 : decode cX9_init 72 = .ok (.iadd, 1) := by decide +kernel
theorem dX9_init_73 : decode cX9_init 73 = .ok (.invokevirtual 34, 3) := by decide +kernel
theorem dX9_init_76 : decode cX9_init 76 = .ok (.istore_n 3, 1) := by decide +kernel
theorem dX9_init_77 : decode cX9_init 77 = .ok (.iload_n 3, 1) := by decide +kernel
theorem dX9_init_78 : decode cX9_init 78 = .ok (.bipush 32, 2) := by decide +kernel
theorem dX9_init_80 : decode cX9_init 80 = .ok (.if_icmp .eq 19, 3) := by decide +kernel
theorem dX9_init_83 : decode cX9_init 83 = .ok (.aload_n 0, 1) := by decide +kernel
theorem dX9_init_84 : decode cX9_init 84 = .ok (.getfield 22, 3) := by decide +kernel
theorem dX9_init_87 : decode cX9_init 87 = .ok (.iload_n 1, 1) := by decide +kernel
theorem dX9_init_88 : decode cX9_init 88 = .ok (.aload_n 0, 1) := by decide +kernel
theorem dX9_init_89 : decode cX9_init 89 = .ok (.getfield 22, 3) := by decide +kernel
theorem dX9_init_92 : decode cX9_init 92 = .ok (.iload_n 1, 1) := by decide +kernel
theorem dX9_init_93 : decode cX9_init 93 = .ok (.laload, 1) := by decide +kernel
theorem dX9_init_94 : decode cX9_init 94 = .ok (.iload_n 3, 1) := by decide +kernel
theorem dX9_init_95 : decode cX9_init 95 = .ok (.invokestatic 40, 3) := by decide +kernel
theorem dX9_init_98 : decode cX9_init 98 = .ok (.lastore, 1) := by decide +kernel
theorem dX9_init_99 : decode cX9_init 99 = .ok (.iinc 2 1, 3) := by decide +kernel
theorem dX9_init_102 : decode cX9_init 102 = .ok (.goto (-43), 3) := by decide +kernel
theorem dX9_init_105 : decode cX9_init 105 = .ok (.iinc 1 1, 3) := by decide +kernel
theorem dX9_init_108 : decode cX9_init 108 = .ok (.goto (-57), 3) := by decide +kernel
theorem dX9_init_111 : decode cX9_init 111 = .ok (.return_, 1) := by decide +kernel
theorem dX9_withLetter_0 : decode cX9_withLetter 0 = .ok (.lload_n 0, 1) := by decide +kernel
theorem dX9_withLetter_1 : decode cX9_withLetter 1 = .ok (.ldc2_w 44, 3) := by decide +kernel
theorem dX9_withLetter_4 : decode cX9_withLetter 4 = .ok (.lmul, 1) := by decide +kernel
theorem dX9_withLetter_5 : decode cX9_withLetter 5 = .ok (.iload_n 2, 1) := by decide +kernel
theorem dX9_withLetter_6 : decode cX9_withLetter 6 = .ok (.bipush 97, 2) := by decide +kernel
theorem dX9_withLetter_8 : decode cX9_withLetter 8 = .ok (.isub, 1) := by decide +kernel
theorem dX9_withLetter_9 : decode cX9_withLetter 9 = .ok (.iconst 1, 1) := by decide +kernel
theorem dX9_withLetter_10 : decode cX9_withLetter 10 = .ok (.iadd, 1) := by decide +kernel
theorem dX9_withLetter_11 : decode cX9_withLetter 11 = .ok (.i2l, 1) := by decide +kernel
theorem dX9_withLetter_12 : decode cX9_withLetter 12 = .ok (.ladd, 1) := by decide +kernel
theorem dX9_withLetter_13 : decode cX9_withLetter 13 = .ok (.lreturn, 1) := by decide +kernel
theorem dX9_scan_0 : decode cX9_scan 0 = .ok (.aload_n 0, 1) := by decide +kernel
theorem dX9_scan_1 : decode cX9_scan 1 = .ok (.iconst 0, 1) := by decide +kernel
theorem dX9_scan_2 : decode cX9_scan 2 = .ok (.putfield 25, 3) := by decide +kernel
theorem dX9_scan_5 : decode cX9_scan 5 = .ok (.aload_n 0, 1) := by decide +kernel
theorem dX9_scan_6 : decode cX9_scan 6 = .ok (.iconst (-1), 1) := by decide +kernel
theorem dX9_scan_7 : decode cX9_scan 7 = .ok (.putfield 29, 3) := by decide +kernel
theorem dX9_scan_10 : decode cX9_scan 10 = .ok (.iconst 0, 1) := by decide +kernel
theorem dX9_scan_11 : decode cX9_scan 11 = .ok (.istore_n 3, 1) := by decide +kernel
theorem dX9_scan_12 : decode cX9_scan 12 = .ok (.iconst 0, 1) := by decide +kernel
theorem dX9_scan_13 : decode cX9_scan 13 = .ok (.istore 4, 2) := by decide +kernel
theorem dX9_scan_15 : decode cX9_scan 15 = .ok (.iload 4, 2) := by decide +kernel
theorem dX9_scan_17 : decode cX9_scan 17 = .ok (.aload_n 0, 1) := by decide +kernel
theorem dX9_scan_18 : decode cX9_scan 18 = .ok (.getfield 9, 3) := by decide +kernel
theorem dX9_scan_21 : decode cX9_scan 21 = .ok (.arraylength, 1) := by decide +kernel
theorem dX9_scan_22 : decode cX9_scan 22 = .ok (.if_icmp .ge 56, 3) := by decide +kernel
theorem dX9_scan_25 : decode cX9_scan 25 = .ok (.aload_n 1, 1) := by decide +kernel
theorem dX9_scan_26 : decode cX9_scan 26 = .ok (.iload_n 3, 1) := by decide +kernel
theorem dX9_scan_27 : decode cX9_scan 27 = .ok (.iload_n 2, 1) := by decide +kernel
theorem dX9_scan_28 : decode cX9_scan 28 = .ok (.invokestatic 46, 3) := by decide +kernel
theorem dX9_scan_31 : decode cX9_scan 31 = .ok (.istore_n 3, 1) := by decide +kernel
theorem dX9_scan_32 : decode cX9_scan 32 = .ok (.aload_n 0, 1) := by decide +kernel
theorem dX9_scan_33 : decode cX9_scan 33 = .ok (.getfield 15, 3) := by decide +kernel
theorem dX9_scan_36 : decode cX9_scan 36 = .ok (.iload 4, 2) := by decide +kernel
theorem dX9_scan_38 : decode cX9_scan 38 = .ok (.iload_n 3, 1) := by decide +kernel
theorem dX9_scan_39 : decode cX9_scan 39 = .ok (.iastore, 1) := by decide +kernel
theorem dX9_scan_40 : decode cX9_scan 40 = .ok (.aload_n 0, 1) := by decide +kernel
theorem dX9_scan_41 : decode cX9_scan 41 = .ok (.aload_n 1, 1) := by decide +kernel
theorem dX9_scan_42 : decode cX9_scan 42 = .ok (.iload_n 3, 1) := by decide +kernel
theorem dX9_scan_43 : decode cX9_scan 43 = .ok (.iload_n 2, 1) := by decide +kernel
theorem dX9_scan_44 : decode cX9_scan 44 = .ok (.iload 4, 2) := by decide +kernel
theorem dX9_scan_46 : decode cX9_scan 46 = .ok (.invokevirtual 50, 3) := by decide +kernel
theorem dX9_scan_49 : decode cX9_scan 49 = .ok (.istore_n 3, 1) := by decide +kernel
theorem dX9_scan_50 : decode cX9_scan 50 = .ok (.aload_n 0, 1) := by decide +kernel
theorem dX9_scan_51 : decode cX9_scan 51 = .ok (.getfield 9, 3) := by decide +kernel
theorem dX9_scan_54 : decode cX9_scan 54 = .ok (.iload 4, 2) := by decide +kernel
theorem dX9_scan_56 : decode cX9_scan 56 = .ok (.iaload, 1) := by decide +kernel
theorem dX9_scan_57 : decode cX9_scan 57 = .ok (.ifCond .eq 14, 3) := by decide +kernel
theorem dX9_scan_60 : decode cX9_scan 60 = .ok (.aload_n 0, 1) := by decide +kernel
theorem dX9_scan_61 : decode cX9_scan 61 = .ok (.getfield 9, 3) := by decide +kernel
theorem dX9_scan_64 : decode cX9_scan 64 = .ok (.iload 4, 2) := by decide +kernel
theorem dX9_scan_66 : decode cX9_scan 66 = .ok (.iaload, 1) := by decide +kernel
theorem dX9_scan_67 : decode cX9_scan 67 = .ok (.iconst 1, 1) := by decide +kernel
theorem dX9_scan_68 : decode cX9_scan 68 = .ok (.if_icmp .ne 4, 3) := by decide +kernel
theorem dX9_scan_71 : decode cX9_scan 71 = .ok (.return_, 1) := by decide +kernel
theorem dX9_scan_72 : decode cX9_scan 72 = .ok (.iinc 4 1, 3) := by decide +kernel
theorem dX9_scan_75 : decode cX9_scan 75 = .ok (.goto (-60), 3) := by decide +kernel
theorem dX9_scan_78 : decode cX9_scan 78 = .ok (.return_, 1) := by decide +kernel
theorem dX9_refuse_0 : decode cX9_refuse 0 = .ok (.aload_n 0, 1) := by decide +kernel
theorem dX9_refuse_1 : decode cX9_refuse 1 = .ok (.iload_n 1, 1) := by decide +kernel
theorem dX9_refuse_2 : decode cX9_refuse 2 = .ok (.putfield 25, 3) := by decide +kernel
theorem dX9_refuse_5 : decode cX9_refuse 5 = .ok (.aload_n 0, 1) := by decide +kernel
theorem dX9_refuse_6 : decode cX9_refuse 6 = .ok (.iload_n 2, 1) := by decide +kernel
theorem dX9_refuse_7 : decode cX9_refuse 7 = .ok (.ifCond .lt 21, 3) := by decide +kernel
theorem dX9_refuse_10 : decode cX9_refuse 10 = .ok (.iload_n 2, 1) := by decide +kernel
theorem dX9_refuse_11 : decode cX9_refuse 11 = .ok (.aload_n 0, 1) := by decide +kernel
theorem dX9_refuse_12 : decode cX9_refuse 12 = .ok (.getfield 15, 3) := by decide +kernel
theorem dX9_refuse_15 : decode cX9_refuse 15 = .ok (.arraylength, 1) := by decide +kernel
theorem dX9_refuse_16 : decode cX9_refuse 16 = .ok (.if_icmp .ge 12, 3) := by decide +kernel
theorem dX9_refuse_19 : decode cX9_refuse 19 = .ok (.aload_n 0, 1) := by decide +kernel
theorem dX9_refuse_20 : decode cX9_refuse 20 = .ok (.getfield 15, 3) := by decide +kernel
theorem dX9_refuse_23 : decode cX9_refuse 23 = .ok (.iload_n 2, 1) := by decide +kernel
theorem dX9_refuse_24 : decode cX9_refuse 24 = .ok (.iaload, 1) := by decide +kernel
theorem dX9_refuse_25 : decode cX9_refuse 25 = .ok (.goto 4, 3) := by decide +kernel
theorem dX9_refuse_28 : decode cX9_refuse 28 = .ok (.iconst (-1), 1) := by decide +kernel
theorem dX9_refuse_29 : decode cX9_refuse 29 = .ok (.putfield 29, 3) := by decide +kernel
theorem dX9_refuse_32 : decode cX9_refuse 32 = .ok (.iconst 0, 1) := by decide +kernel
theorem dX9_refuse_33 : decode cX9_refuse 33 = .ok (.ireturn, 1) := by decide +kernel
theorem dX9_kindAt_0 : decode cX9_kindAt 0 = .ok (.iload_n 1, 1) := by decide +kernel
theorem dX9_kindAt_1 : decode cX9_kindAt 1 = .ok (.ifCond .lt 21, 3) := by decide +kernel
theorem dX9_kindAt_4 : decode cX9_kindAt 4 = .ok (.iload_n 1, 1) := by decide +kernel
theorem dX9_kindAt_5 : decode cX9_kindAt 5 = .ok (.aload_n 0, 1) := by decide +kernel
theorem dX9_kindAt_6 : decode cX9_kindAt 6 = .ok (.getfield 9, 3) := by decide +kernel
theorem dX9_kindAt_9 : decode cX9_kindAt 9 = .ok (.arraylength, 1) := by decide +kernel
theorem dX9_kindAt_10 : decode cX9_kindAt 10 = .ok (.if_icmp .ge 12, 3) := by decide +kernel
theorem dX9_kindAt_13 : decode cX9_kindAt 13 = .ok (.aload_n 0, 1) := by decide +kernel
theorem dX9_kindAt_14 : decode cX9_kindAt 14 = .ok (.getfield 9, 3) := by decide +kernel
theorem dX9_kindAt_17 : decode cX9_kindAt 17 = .ok (.iload_n 1, 1) := by decide +kernel
theorem dX9_kindAt_18 : decode cX9_kindAt 18 = .ok (.iaload, 1) := by decide +kernel
theorem dX9_kindAt_19 : decode cX9_kindAt 19 = .ok (.goto 4, 3) := by decide +kernel
theorem dX9_kindAt_22 : decode cX9_kindAt 22 = .ok (.iconst 0, 1) := by decide +kernel
theorem dX9_kindAt_23 : decode cX9_kindAt 23 = .ok (.ireturn, 1) := by decide +kernel
theorem dX9_valueAt_0 : decode cX9_valueAt 0 = .ok (.iload_n 1, 1) := by decide +kernel
theorem dX9_valueAt_1 : decode cX9_valueAt 1 = .ok (.ifCond .lt 21, 3) := by decide +kernel
theorem dX9_valueAt_4 : decode cX9_valueAt 4 = .ok (.iload_n 1, 1) := by decide +kernel
theorem dX9_valueAt_5 : decode cX9_valueAt 5 = .ok (.aload_n 0, 1) := by decide +kernel
theorem dX9_valueAt_6 : decode cX9_valueAt 6 = .ok (.getfield 18, 3) := by decide +kernel
theorem dX9_valueAt_9 : decode cX9_valueAt 9 = .ok (.arraylength, 1) := by decide +kernel
theorem dX9_valueAt_10 : decode cX9_valueAt 10 = .ok (.if_icmp .ge 12, 3) := by decide +kernel
theorem dX9_valueAt_13 : decode cX9_valueAt 13 = .ok (.aload_n 0, 1) := by decide +kernel
theorem dX9_valueAt_14 : decode cX9_valueAt 14 = .ok (.getfield 18, 3) := by decide +kernel
theorem dX9_valueAt_17 : decode cX9_valueAt 17 = .ok (.iload_n 1, 1) := by decide +kernel
theorem dX9_valueAt_18 : decode cX9_valueAt 18 = .ok (.laload, 1) := by decide +kernel
theorem dX9_valueAt_19 : decode cX9_valueAt 19 = .ok (.goto 4, 3) := by decide +kernel
theorem dX9_valueAt_22 : decode cX9_valueAt 22 = .ok (.lconst 0, 1) := by decide +kernel
theorem dX9_valueAt_23 : decode cX9_valueAt 23 = .ok (.lreturn, 1) := by decide +kernel
theorem dX9_behindBlanks_0 : decode cX9_behindBlanks 0 = .ok (.iload_n 1, 1) := by decide +kernel
theorem dX9_behindBlanks_1 : decode cX9_behindBlanks 1 = .ok (.istore_n 3, 1) := by decide +kernel
theorem dX9_behindBlanks_2 : decode cX9_behindBlanks 2 = .ok (.iload_n 3, 1) := by decide +kernel
theorem dX9_behindBlanks_3 : decode cX9_behindBlanks 3 = .ok (.iload_n 2, 1) := by decide +kernel
theorem dX9_behindBlanks_4 : decode cX9_behindBlanks 4 = .ok (.if_icmp .ge 24, 3) := by decide +kernel
theorem dX9_behindBlanks_7 : decode cX9_behindBlanks 7 = .ok (.iload_n 3, 1) := by decide +kernel
theorem dX9_behindBlanks_8 : decode cX9_behindBlanks 8 = .ok (.aload_n 0, 1) := by decide +kernel
theorem dX9_behindBlanks_9 : decode cX9_behindBlanks 9 = .ok (.arraylength, 1) := by decide +kernel
theorem dX9_behindBlanks_10 : decode cX9_behindBlanks 10 = .ok (.if_icmp .ge 18, 3) := by decide +kernel
theorem dX9_behindBlanks_13 : decode cX9_behindBlanks 13 = .ok (.aload_n 0, 1) := by decide +kernel
theorem dX9_behindBlanks_14 : decode cX9_behindBlanks 14 = .ok (.iload_n 3, 1) := by decide +kernel
theorem dX9_behindBlanks_15 : decode cX9_behindBlanks 15 = .ok (.baload, 1) := by decide +kernel
theorem dX9_behindBlanks_16 : decode cX9_behindBlanks 16 = .ok (.invokestatic 54, 3) := by decide +kernel
theorem dX9_behindBlanks_19 : decode cX9_behindBlanks 19 = .ok (.ifCond .eq 9, 3) := by decide +kernel
theorem dX9_behindBlanks_22 : decode cX9_behindBlanks 22 = .ok (.iinc 3 1, 3) := by decide +kernel
theorem dX9_behindBlanks_25 : decode cX9_behindBlanks 25 = .ok (.goto (-23), 3) := by decide +kernel
theorem dX9_behindBlanks_28 : decode cX9_behindBlanks 28 = .ok (.iload_n 3, 1) := by decide +kernel
theorem dX9_behindBlanks_29 : decode cX9_behindBlanks 29 = .ok (.ireturn, 1) := by decide +kernel
theorem dX9_isBlank_0 : decode cX9_isBlank 0 = .ok (.iload_n 0, 1) := by decide +kernel
theorem dX9_isBlank_1 : decode cX9_isBlank 1 = .ok (.bipush 32, 2) := by decide +kernel
theorem dX9_isBlank_3 : decode cX9_isBlank 3 = .ok (.if_icmp .eq 21, 3) := by decide +kernel
theorem dX9_isBlank_6 : decode cX9_isBlank 6 = .ok (.iload_n 0, 1) := by decide +kernel
theorem dX9_isBlank_7 : decode cX9_isBlank 7 = .ok (.bipush 9, 2) := by decide +kernel
theorem dX9_isBlank_9 : decode cX9_isBlank 9 = .ok (.if_icmp .eq 15, 3) := by decide +kernel
theorem dX9_isBlank_12 : decode cX9_isBlank 12 = .ok (.iload_n 0, 1) := by decide +kernel
theorem dX9_isBlank_13 : decode cX9_isBlank 13 = .ok (.bipush 10, 2) := by decide +kernel
theorem dX9_isBlank_15 : decode cX9_isBlank 15 = .ok (.if_icmp .eq 9, 3) := by decide +kernel
theorem dX9_isBlank_18 : decode cX9_isBlank 18 = .ok (.iload_n 0, 1) := by decide +kernel
theorem dX9_isBlank_19 : decode cX9_isBlank 19 = .ok (.bipush 13, 2) := by decide +kernel
theorem dX9_isBlank_21 : decode cX9_isBlank 21 = .ok (.if_icmp .ne 7, 3) := by decide +kernel
theorem dX9_isBlank_24 : decode cX9_isBlank 24 = .ok (.iconst 1, 1) := by decide +kernel
theorem dX9_isBlank_25 : decode cX9_isBlank 25 = .ok (.goto 4, 3) := by decide +kernel
theorem dX9_isBlank_28 : decode cX9_isBlank 28 = .ok (.iconst 0, 1) := by decide +kernel
theorem dX9_isBlank_29 : decode cX9_isBlank 29 = .ok (.ireturn, 1) := by decide +kernel
theorem dX9_isLetter_0 : decode cX9_isLetter 0 = .ok (.iload_n 0, 1) := by decide +kernel
theorem dX9_isLetter_1 : decode cX9_isLetter 1 = .ok (.bipush 97, 2) := by decide +kernel
theorem dX9_isLetter_3 : decode cX9_isLetter 3 = .ok (.if_icmp .lt 13, 3) := by decide +kernel
theorem dX9_isLetter_6 : decode cX9_isLetter 6 = .ok (.iload_n 0, 1) := by decide +kernel
theorem dX9_isLetter_7 : decode cX9_isLetter 7 = .ok (.bipush 122, 2) := by decide +kernel
theorem dX9_isLetter_9 : decode cX9_isLetter 9 = .ok (.if_icmp .gt 7, 3) := by decide +kernel
theorem dX9_isLetter_12 : decode cX9_isLetter 12 = .ok (.iconst 1, 1) := by decide +kernel
theorem dX9_isLetter_13 : decode cX9_isLetter 13 = .ok (.goto 4, 3) := by decide +kernel
theorem dX9_isLetter_16 : decode cX9_isLetter 16 = .ok (.iconst 0, 1) := by decide +kernel
theorem dX9_isLetter_17 : decode cX9_isLetter 17 = .ok (.ireturn, 1) := by decide +kernel
theorem dX9_isDigit_0 : decode cX9_isDigit 0 = .ok (.iload_n 0, 1) := by decide +kernel
theorem dX9_isDigit_1 : decode cX9_isDigit 1 = .ok (.bipush 48, 2) := by decide +kernel
theorem dX9_isDigit_3 : decode cX9_isDigit 3 = .ok (.if_icmp .lt 13, 3) := by decide +kernel
theorem dX9_isDigit_6 : decode cX9_isDigit 6 = .ok (.iload_n 0, 1) := by decide +kernel
theorem dX9_isDigit_7 : decode cX9_isDigit 7 = .ok (.bipush 57, 2) := by decide +kernel
theorem dX9_isDigit_9 : decode cX9_isDigit 9 = .ok (.if_icmp .gt 7, 3) := by decide +kernel
theorem dX9_isDigit_12 : decode cX9_isDigit 12 = .ok (.iconst 1, 1) := by decide +kernel
theorem dX9_isDigit_13 : decode cX9_isDigit 13 = .ok (.goto 4, 3) := by decide +kernel
theorem dX9_isDigit_16 : decode cX9_isDigit 16 = .ok (.iconst 0, 1) := by decide +kernel
theorem dX9_isDigit_17 : decode cX9_isDigit 17 = .ok (.ireturn, 1) := by decide +kernel
theorem dX9_scanOne_0 : decode cX9_scanOne 0 = .ok (.aload_n 0, 1) := by decide +kernel
theorem dX9_scanOne_1 : decode cX9_scanOne 1 = .ok (.getfield 18, 3) := by decide +kernel
theorem dX9_scanOne_4 : decode cX9_scanOne 4 = .ok (.iload 4, 2) := by decide +kernel
theorem dX9_scanOne_6 : decode cX9_scanOne 6 = .ok (.lconst 0, 1) := by decide +kernel
theorem dX9_scanOne_7 : decode cX9_scanOne 7 = .ok (.lastore, 1) := by decide +kernel
theorem dX9_scanOne_8 : decode cX9_scanOne 8 = .ok (.iload_n 2, 1) := by decide +kernel
theorem dX9_scanOne_9 : decode cX9_scanOne 9 = .ok (.iload_n 3, 1) := by decide +kernel
theorem dX9_scanOne_10 : decode cX9_scanOne 10 = .ok (.if_icmp .ge 9, 3) := by decide +kernel
theorem dX9_scanOne_13 : decode cX9_scanOne 13 = .ok (.iload_n 2, 1) := by decide +kernel
theorem dX9_scanOne_14 : decode cX9_scanOne 14 = .ok (.aload_n 1, 1) := by decide +kernel
theorem dX9_scanOne_15 : decode cX9_scanOne 15 = .ok (.arraylength, 1) := by decide +kernel
theorem dX9_scanOne_16 : decode cX9_scanOne 16 = .ok (.if_icmp .lt 13, 3) := by decide +kernel
theorem dX9_scanOne_19 : decode cX9_scanOne 19 = .ok (.aload_n 0, 1) := by decide +kernel
theorem dX9_scanOne_20 : decode cX9_scanOne 20 = .ok (.getfield 9, 3) := by decide +kernel
theorem dX9_scanOne_23 : decode cX9_scanOne 23 = .ok (.iload 4, 2) := by decide +kernel
theorem dX9_scanOne_25 : decode cX9_scanOne 25 = .ok (.iconst 0, 1) := by decide +kernel
theorem dX9_scanOne_26 : decode cX9_scanOne 26 = .ok (.iastore, 1) := by decide +kernel
theorem dX9_scanOne_27 : decode cX9_scanOne 27 = .ok (.iload_n 2, 1) := by decide +kernel
theorem dX9_scanOne_28 : decode cX9_scanOne 28 = .ok (.ireturn, 1) := by decide +kernel
theorem dX9_scanOne_29 : decode cX9_scanOne 29 = .ok (.aload_n 1, 1) := by decide +kernel
theorem dX9_scanOne_30 : decode cX9_scanOne 30 = .ok (.iload_n 2, 1) := by decide +kernel
theorem dX9_scanOne_31 : decode cX9_scanOne 31 = .ok (.baload, 1) := by decide +kernel
theorem dX9_scanOne_32 : decode cX9_scanOne 32 = .ok (.sipush 255, 3) := by decide +kernel
theorem dX9_scanOne_35 : decode cX9_scanOne 35 = .ok (.iand, 1) := by decide +kernel
theorem dX9_scanOne_36 : decode cX9_scanOne 36 = .ok (.istore 5, 2) := by decide +kernel
theorem dX9_scanOne_38 : decode cX9_scanOne 38 = .ok (.iload 5, 2) := by decide +kernel
theorem dX9_scanOne_40 : decode cX9_scanOne 40 = .ok (.invokestatic 58, 3) := by decide +kernel
theorem dX9_scanOne_43 : decode cX9_scanOne 43 = .ok (.ifCond .eq 13, 3) := by decide +kernel
theorem dX9_scanOne_46 : decode cX9_scanOne 46 = .ok (.aload_n 0, 1) := by decide +kernel
theorem dX9_scanOne_47 : decode cX9_scanOne 47 = .ok (.aload_n 1, 1) := by decide +kernel
theorem dX9_scanOne_48 : decode cX9_scanOne 48 = .ok (.iload_n 2, 1) := by decide +kernel
theorem dX9_scanOne_49 : decode cX9_scanOne 49 = .ok (.iload_n 3, 1) := by decide +kernel
theorem dX9_scanOne_50 : decode cX9_scanOne 50 = .ok (.iload 4, 2) := by decide +kernel
theorem dX9_scanOne_52 : decode cX9_scanOne 52 = .ok (.invokevirtual 61, 3) := by decide +kernel
theorem dX9_scanOne_55 : decode cX9_scanOne 55 = .ok (.ireturn, 1) := by decide +kernel
theorem dX9_scanOne_56 : decode cX9_scanOne 56 = .ok (.iload 5, 2) := by decide +kernel
theorem dX9_scanOne_58 : decode cX9_scanOne 58 = .ok (.invokestatic 64, 3) := by decide +kernel
theorem dX9_scanOne_61 : decode cX9_scanOne 61 = .ok (.ifCond .eq 13, 3) := by decide +kernel
theorem dX9_scanOne_64 : decode cX9_scanOne 64 = .ok (.aload_n 0, 1) := by decide +kernel
theorem dX9_scanOne_65 : decode cX9_scanOne 65 = .ok (.aload_n 1, 1) := by decide +kernel
theorem dX9_scanOne_66 : decode cX9_scanOne 66 = .ok (.iload_n 2, 1) := by decide +kernel
theorem dX9_scanOne_67 : decode cX9_scanOne 67 = .ok (.iload_n 3, 1) := by decide +kernel
theorem dX9_scanOne_68 : decode cX9_scanOne 68 = .ok (.iload 4, 2) := by decide +kernel
theorem dX9_scanOne_70 : decode cX9_scanOne 70 = .ok (.invokevirtual 67, 3) := by decide +kernel
theorem dX9_scanOne_73 : decode cX9_scanOne 73 = .ok (.ireturn, 1) := by decide +kernel
theorem dX9_scanOne_74 : decode cX9_scanOne 74 = .ok (.ldc 70, 2) := by decide +kernel
theorem dX9_scanOne_76 : decode cX9_scanOne 76 = .ok (.iload 5, 2) := by decide +kernel
theorem dX9_scanOne_78 : decode cX9_scanOne 78 = .ok (.i2c, 1) := by decide +kernel
theorem dX9_scanOne_79 : decode cX9_scanOne 79 = .ok (.invokevirtual 72, 3) := by decide +kernel
theorem dX9_scanOne_82 : decode cX9_scanOne 82 = .ok (.istore 6, 2) := by decide +kernel
theorem dX9_scanOne_84 : decode cX9_scanOne 84 = .ok (.aload_n 0, 1) := by decide +kernel
theorem dX9_scanOne_85 : decode cX9_scanOne 85 = .ok (.getfield 9, 3) := by decide +kernel
theorem dX9_scanOne_88 : decode cX9_scanOne 88 = .ok (.iload 4, 2) := by decide +kernel
theorem dX9_scanOne_90 : decode cX9_scanOne 90 = .ok (.iload 6, 2) := by decide +kernel
theorem dX9_scanOne_92 : decode cX9_scanOne 92 = .ok (.ifCond .ge 7, 3) := by decide +kernel
theorem dX9_scanOne_95 : decode cX9_scanOne 95 = .ok (.iconst 1, 1) := by decide +kernel
theorem dX9_scanOne_96 : decode cX9_scanOne 96 = .ok (.goto 7, 3) := by decide +kernel
theorem dX9_scanOne_99 : decode cX9_scanOne 99 = .ok (.iconst 4, 1) := by decide +kernel
theorem dX9_scanOne_100 : decode cX9_scanOne 100 = .ok (.iload 6, 2) := by decide +kernel
theorem dX9_scanOne_102 : decode cX9_scanOne 102 = .ok (.iadd, 1) := by decide +kernel
theorem dX9_scanOne_103 : decode cX9_scanOne 103 = .ok (.iastore, 1) := by decide +kernel
theorem dX9_scanOne_104 : decode cX9_scanOne 104 = .ok (.iload_n 2, 1) := by decide +kernel
theorem dX9_scanOne_105 : decode cX9_scanOne 105 = .ok (.iconst 1, 1) := by decide +kernel
theorem dX9_scanOne_106 : decode cX9_scanOne 106 = .ok (.iadd, 1) := by decide +kernel
theorem dX9_scanOne_107 : decode cX9_scanOne 107 = .ok (.ireturn, 1) := by decide +kernel
theorem dX9_scanLetters_0 : decode cX9_scanLetters 0 = .ok (.iload_n 2, 1) := by decide +kernel
theorem dX9_scanLetters_1 : decode cX9_scanLetters 1 = .ok (.istore 5, 2) := by decide +kernel
theorem dX9_scanLetters_3 : decode cX9_scanLetters 3 = .ok (.lconst 0, 1) := by decide +kernel
theorem dX9_scanLetters_4 : decode cX9_scanLetters 4 = .ok (.lstore 6, 2) := by decide +kernel
theorem dX9_scanLetters_6 : decode cX9_scanLetters 6 = .ok (.iload 5, 2) := by decide +kernel
theorem dX9_scanLetters_8 : decode cX9_scanLetters 8 = .ok (.iload_n 3, 1) := by decide +kernel
theorem dX9_scanLetters_9 : decode cX9_scanLetters 9 = .ok (.if_icmp .ge 37, 3) := by decide +kernel
theorem dX9_scanLetters_12 : decode cX9_scanLetters 12 = .ok (.iload 5, 2) := by decide +kernel
theorem dX9_scanLetters_14 : decode cX9_scanLetters 14 = .ok (.aload_n 1, 1) := by decide +kernel
theorem dX9_scanLetters_15 : decode cX9_scanLetters 15 = .ok (.arraylength, 1) := by decide +kernel
theorem dX9_scanLetters_16 : decode cX9_scanLetters 16 = .ok (.if_icmp .ge 30, 3) := by decide +kernel
theorem dX9_scanLetters_19 : decode cX9_scanLetters 19 = .ok (.aload_n 1, 1) := by decide +kernel
theorem dX9_scanLetters_20 : decode cX9_scanLetters 20 = .ok (.iload 5, 2) := by decide +kernel
theorem dX9_scanLetters_22 : decode cX9_scanLetters 22 = .ok (.baload, 1) := by decide +kernel
theorem dX9_scanLetters_23 : decode cX9_scanLetters 23 = .ok (.invokestatic 58, 3) := by decide +kernel
theorem dX9_scanLetters_26 : decode cX9_scanLetters 26 = .ok (.ifCond .eq 20, 3) := by decide +kernel
theorem dX9_scanLetters_29 : decode cX9_scanLetters 29 = .ok (.lload 6, 2) := by decide +kernel
theorem dX9_scanLetters_31 : decode cX9_scanLetters 31 = .ok (.aload_n 1, 1) := by decide +kernel
theorem dX9_scanLetters_32 : decode cX9_scanLetters 32 = .ok (.iload 5, 2) := by decide +kernel
theorem dX9_scanLetters_34 : decode cX9_scanLetters 34 = .ok (.baload, 1) := by decide +kernel
theorem dX9_scanLetters_35 : decode cX9_scanLetters 35 = .ok (.invokestatic 40, 3) := by decide +kernel
theorem dX9_scanLetters_38 : decode cX9_scanLetters 38 = .ok (.lstore 6, 2) := by decide +kernel
theorem dX9_scanLetters_40 : decode cX9_scanLetters 40 = .ok (.iinc 5 1, 3) := by decide +kernel
theorem dX9_scanLetters_43 : decode cX9_scanLetters 43 = .ok (.goto (-37), 3) := by decide +kernel
theorem dX9_scanLetters_46 : decode cX9_scanLetters 46 = .ok (.aload_n 0, 1) := by decide +kernel
theorem dX9_scanLetters_47 : decode cX9_scanLetters 47 = .ok (.getfield 18, 3) := by decide +kernel
theorem dX9_scanLetters_50 : decode cX9_scanLetters 50 = .ok (.iload 4, 2) := by decide +kernel
theorem dX9_scanLetters_52 : decode cX9_scanLetters 52 = .ok (.lload 6, 2) := by decide +kernel
theorem dX9_scanLetters_54 : decode cX9_scanLetters 54 = .ok (.lastore, 1) := by decide +kernel
theorem dX9_scanLetters_55 : decode cX9_scanLetters 55 = .ok (.aload_n 0, 1) := by decide +kernel
theorem dX9_scanLetters_56 : decode cX9_scanLetters 56 = .ok (.getfield 9, 3) := by decide +kernel
theorem dX9_scanLetters_59 : decode cX9_scanLetters 59 = .ok (.iload 4, 2) := by decide +kernel
theorem dX9_scanLetters_61 : decode cX9_scanLetters 61 = .ok (.iload 5, 2) := by decide +kernel
theorem dX9_scanLetters_63 : decode cX9_scanLetters 63 = .ok (.iload_n 2, 1) := by decide +kernel
theorem dX9_scanLetters_64 : decode cX9_scanLetters 64 = .ok (.isub, 1) := by decide +kernel
theorem dX9_scanLetters_65 : decode cX9_scanLetters 65 = .ok (.bipush 8, 2) := by decide +kernel
theorem dX9_scanLetters_67 : decode cX9_scanLetters 67 = .ok (.if_icmp .le 7, 3) := by decide +kernel
theorem dX9_scanLetters_70 : decode cX9_scanLetters 70 = .ok (.iconst 1, 1) := by decide +kernel
theorem dX9_scanLetters_71 : decode cX9_scanLetters 71 = .ok (.goto 9, 3) := by decide +kernel
theorem dX9_scanLetters_74 : decode cX9_scanLetters 74 = .ok (.aload_n 0, 1) := by decide +kernel
theorem dX9_scanLetters_75 : decode cX9_scanLetters 75 = .ok (.lload 6, 2) := by decide +kernel
theorem dX9_scanLetters_77 : decode cX9_scanLetters 77 = .ok (.invokevirtual 76, 3) := by decide +kernel
theorem dX9_scanLetters_80 : decode cX9_scanLetters 80 = .ok (.iastore, 1) := by decide +kernel
theorem dX9_scanLetters_81 : decode cX9_scanLetters 81 = .ok (.iload 5, 2) := by decide +kernel
theorem dX9_scanLetters_83 : decode cX9_scanLetters 83 = .ok (.ireturn, 1) := by decide +kernel
theorem dX9_kindOfWord_0 : decode cX9_kindOfWord 0 = .ok (.iconst 0, 1) := by decide +kernel
theorem dX9_kindOfWord_1 : decode cX9_kindOfWord 1 = .ok (.istore_n 3, 1) := by decide +kernel
theorem dX9_kindOfWord_2 : decode cX9_kindOfWord 2 = .ok (.iload_n 3, 1) := by decide +kernel
theorem dX9_kindOfWord_3 : decode cX9_kindOfWord 3 = .ok (.aload_n 0, 1) := by decide +kernel
theorem dX9_kindOfWord_4 : decode cX9_kindOfWord 4 = .ok (.getfield 22, 3) := by decide +kernel
theorem dX9_kindOfWord_7 : decode cX9_kindOfWord 7 = .ok (.arraylength, 1) := by decide +kernel
theorem dX9_kindOfWord_8 : decode cX9_kindOfWord 8 = .ok (.if_icmp .ge 25, 3) := by decide +kernel
theorem dX9_kindOfWord_11 : decode cX9_kindOfWord 11 = .ok (.aload_n 0, 1) := by decide +kernel
theorem dX9_kindOfWord_12 : decode cX9_kindOfWord 12 = .ok (.getfield 22, 3) := by decide +kernel
theorem dX9_kindOfWord_15 : decode cX9_kindOfWord 15 = .ok (.iload_n 3, 1) := by decide +kernel
theorem dX9_kindOfWord_16 : decode cX9_kindOfWord 16 = .ok (.laload, 1) := by decide +kernel
theorem dX9_kindOfWord_17 : decode cX9_kindOfWord 17 = .ok (.lload_n 1, 1) := by decide +kernel
theorem dX9_kindOfWord_18 : decode cX9_kindOfWord 18 = .ok (.lcmp, 1) := by decide +kernel
theorem dX9_kindOfWord_19 : decode cX9_kindOfWord 19 = .ok (.ifCond .ne 8, 3) := by decide +kernel
theorem dX9_kindOfWord_22 : decode cX9_kindOfWord 22 = .ok (.bipush 13, 2) := by decide +kernel
theorem dX9_kindOfWord_24 : decode cX9_kindOfWord 24 = .ok (.iload_n 3, 1) := by decide +kernel
theorem dX9_kindOfWord_25 : decode cX9_kindOfWord 25 = .ok (.iadd, 1) := by decide +kernel
theorem dX9_kindOfWord_26 : decode cX9_kindOfWord 26 = .ok (.ireturn, 1) := by decide +kernel
theorem dX9_kindOfWord_27 : decode cX9_kindOfWord 27 = .ok (.iinc 3 1, 3) := by decide +kernel
theorem dX9_kindOfWord_30 : decode cX9_kindOfWord 30 = .ok (.goto (-28), 3) := by decide +kernel
theorem dX9_kindOfWord_33 : decode cX9_kindOfWord 33 = .ok (.iconst 2, 1) := by decide +kernel
theorem dX9_kindOfWord_34 : decode cX9_kindOfWord 34 = .ok (.ireturn, 1) := by decide +kernel
theorem dX9_scanDigits_0 : decode cX9_scanDigits 0 = .ok (.iload_n 2, 1) := by decide +kernel
theorem dX9_scanDigits_1 : decode cX9_scanDigits 1 = .ok (.istore 5, 2) := by decide +kernel
theorem dX9_scanDigits_3 : decode cX9_scanDigits 3 = .ok (.lconst 0, 1) := by decide +kernel
theorem dX9_scanDigits_4 : decode cX9_scanDigits 4 = .ok (.lstore 6, 2) := by decide +kernel
theorem dX9_scanDigits_6 : decode cX9_scanDigits 6 = .ok (.iload 5, 2) := by decide +kernel
theorem dX9_scanDigits_8 : decode cX9_scanDigits 8 = .ok (.iload_n 3, 1) := by decide +kernel
theorem dX9_scanDigits_9 : decode cX9_scanDigits 9 = .ok (.if_icmp .ge 43, 3) := by decide +kernel
theorem dX9_scanDigits_12 : decode cX9_scanDigits 12 = .ok (.iload 5, 2) := by decide +kernel
theorem dX9_scanDigits_14 : decode cX9_scanDigits 14 = .ok (.aload_n 1, 1) := by decide +kernel
theorem dX9_scanDigits_15 : decode cX9_scanDigits 15 = .ok (.arraylength, 1) := by decide +kernel
theorem dX9_scanDigits_16 : decode cX9_scanDigits 16 = .ok (.if_icmp .ge 36, 3) := by decide +kernel
theorem dX9_scanDigits_19 : decode cX9_scanDigits 19 = .ok (.aload_n 1, 1) := by decide +kernel
theorem dX9_scanDigits_20 : decode cX9_scanDigits 20 = .ok (.iload 5, 2) := by decide +kernel
theorem dX9_scanDigits_22 : decode cX9_scanDigits 22 = .ok (.baload, 1) := by decide +kernel
theorem dX9_scanDigits_23 : decode cX9_scanDigits 23 = .ok (.invokestatic 64, 3) := by decide +kernel
theorem dX9_scanDigits_26 : decode cX9_scanDigits 26 = .ok (.ifCond .eq 26, 3) := by decide +kernel
theorem dX9_scanDigits_29 : decode cX9_scanDigits 29 = .ok (.lload 6, 2) := by decide +kernel
theorem dX9_scanDigits_31 : decode cX9_scanDigits 31 = .ok (.ldc2_w 80, 3) := by decide +kernel
theorem dX9_scanDigits_34 : decode cX9_scanDigits 34 = .ok (.lmul, 1) := by decide +kernel
theorem dX9_scanDigits_35 : decode cX9_scanDigits 35 = .ok (.aload_n 1, 1) := by decide +kernel
theorem dX9_scanDigits_36 : decode cX9_scanDigits 36 = .ok (.iload 5, 2) := by decide +kernel
theorem dX9_scanDigits_38 : decode cX9_scanDigits 38 = .ok (.baload, 1) := by decide +kernel
theorem dX9_scanDigits_39 : decode cX9_scanDigits 39 = .ok (.bipush 48, 2) := by decide +kernel
theorem dX9_scanDigits_41 : decode cX9_scanDigits 41 = .ok (.isub, 1) := by decide +kernel
theorem dX9_scanDigits_42 : decode cX9_scanDigits 42 = .ok (.i2l, 1) := by decide +kernel
theorem dX9_scanDigits_43 : decode cX9_scanDigits 43 = .ok (.ladd, 1) := by decide +kernel
theorem dX9_scanDigits_44 : decode cX9_scanDigits 44 = .ok (.lstore 6, 2) := by decide +kernel
theorem dX9_scanDigits_46 : decode cX9_scanDigits 46 = .ok (.iinc 5 1, 3) := by decide +kernel
theorem dX9_scanDigits_49 : decode cX9_scanDigits 49 = .ok (.goto (-43), 3) := by decide +kernel
theorem dX9_scanDigits_52 : decode cX9_scanDigits 52 = .ok (.aload_n 0, 1) := by decide +kernel
theorem dX9_scanDigits_53 : decode cX9_scanDigits 53 = .ok (.getfield 18, 3) := by decide +kernel
theorem dX9_scanDigits_56 : decode cX9_scanDigits 56 = .ok (.iload 4, 2) := by decide +kernel
theorem dX9_scanDigits_58 : decode cX9_scanDigits 58 = .ok (.lload 6, 2) := by decide +kernel
theorem dX9_scanDigits_60 : decode cX9_scanDigits 60 = .ok (.lastore, 1) := by decide +kernel
theorem dX9_scanDigits_61 : decode cX9_scanDigits 61 = .ok (.aload_n 0, 1) := by decide +kernel
theorem dX9_scanDigits_62 : decode cX9_scanDigits 62 = .ok (.getfield 9, 3) := by decide +kernel
theorem dX9_scanDigits_65 : decode cX9_scanDigits 65 = .ok (.iload 4, 2) := by decide +kernel
theorem dX9_scanDigits_67 : decode cX9_scanDigits 67 = .ok (.iload 5, 2) := by decide +kernel
theorem dX9_scanDigits_69 : decode cX9_scanDigits 69 = .ok (.iload_n 2, 1) := by decide +kernel
theorem dX9_scanDigits_70 : decode cX9_scanDigits 70 = .ok (.isub, 1) := by decide +kernel
theorem dX9_scanDigits_71 : decode cX9_scanDigits 71 = .ok (.iconst 4, 1) := by decide +kernel
theorem dX9_scanDigits_72 : decode cX9_scanDigits 72 = .ok (.if_icmp .le 7, 3) := by decide +kernel
theorem dX9_scanDigits_75 : decode cX9_scanDigits 75 = .ok (.iconst 1, 1) := by decide +kernel
theorem dX9_scanDigits_76 : decode cX9_scanDigits 76 = .ok (.goto 4, 3) := by decide +kernel
theorem dX9_scanDigits_79 : decode cX9_scanDigits 79 = .ok (.iconst 3, 1) := by decide +kernel
theorem dX9_scanDigits_80 : decode cX9_scanDigits 80 = .ok (.iastore, 1) := by decide +kernel
theorem dX9_scanDigits_81 : decode cX9_scanDigits 81 = .ok (.iload 5, 2) := by decide +kernel
theorem dX9_scanDigits_83 : decode cX9_scanDigits 83 = .ok (.ireturn, 1) := by decide +kernel
theorem dX10_init_0 : decode cX10_init 0 = .ok (.aload_n 0, 1) := by decide +kernel
theorem dX10_init_1 : decode cX10_init 1 = .ok (.invokespecial 3, 3) := by decide +kernel
theorem dX10_init_4 : decode cX10_init 4 = .ok (.aload_n 0, 1) := by decide +kernel
theorem dX10_init_5 : decode cX10_init 5 = .ok (.sipush 2000, 3) := by decide +kernel
theorem dX10_init_8 : decode cX10_init 8 = .ok (.newarray .byte, 2) := by decide +kernel
theorem dX10_init_10 : decode cX10_init 10 = .ok (.putfield 9, 3) := by decide +kernel
theorem dX10_init_13 : decode cX10_init 13 = .ok (.aload_n 0, 1) := by decide +kernel
theorem dX10_init_14 : decode cX10_init 14 = .ok (.iconst 0, 1) := by decide +kernel
theorem dX10_init_15 : decode cX10_init 15 = .ok (.putfield 13, 3) := by decide +kernel
theorem dX10_init_18 : decode cX10_init 18 = .ok (.aload_n 0, 1) := by decide +kernel
theorem dX10_init_19 : decode cX10_init 19 = .ok (.new 17, 3) := by decide +kernel
theorem dX10_init_22 : decode cX10_init 22 = .ok (.dup, 1) := by decide +kernel
theorem dX10_init_23 : decode cX10_init 23 = .ok (.invokespecial 19, 3) := by decide +kernel
theorem dX10_init_26 : decode cX10_init 26 = .ok (.putfield 20, 3) := by decide +kernel
theorem dX10_init_29 : decode cX10_init 29 = .ok (.aload_n 0, 1) := by decide +kernel
theorem dX10_init_30 : decode cX10_init 30 = .ok (.new 24, 3) := by decide +kernel
theorem dX10_init_33 : decode cX10_init 33 = .ok (.dup, 1) := by decide +kernel
theorem dX10_init_34 : decode cX10_init 34 = .ok (.invokespecial 26, 3) := by decide +kernel
theorem dX10_init_37 : decode cX10_init 37 = .ok (.putfield 27, 3) := by decide +kernel
theorem dX10_init_40 : decode cX10_init 40 = .ok (.aload_n 0, 1) := by decide +kernel
theorem dX10_init_41 : decode cX10_init 41 = .ok (.new 24, 3) := by decide +kernel
theorem dX10_init_44 : decode cX10_init 44 = .ok (.dup, 1) := by decide +kernel
theorem dX10_init_45 : decode cX10_init 45 = .ok (.invokespecial 26, 3) := by decide +kernel
theorem dX10_init_48 : decode cX10_init 48 = .ok (.putfield 31, 3) := by decide +kernel
theorem dX10_init_51 : decode cX10_init 51 = .ok (.aload_n 0, 1) := by decide +kernel
theorem dX10_init_52 : decode cX10_init 52 = .ok (.new 34, 3) := by decide +kernel
theorem dX10_init_55 : decode cX10_init 55 = .ok (.dup, 1) := by decide +kernel
theorem dX10_init_56 : decode cX10_init 56 = .ok (.aload_n 0, 1) := by decide +kernel
theorem dX10_init_57 : decode cX10_init 57 = .ok (.getfield 20, 3) := by decide +kernel
theorem dX10_init_60 : decode cX10_init 60 = .ok (.aload_n 0, 1) := by decide +kernel
theorem dX10_init_61 : decode cX10_init 61 = .ok (.getfield 31, 3) := by decide +kernel
theorem dX10_init_64 : decode cX10_init 64 = .ok (.invokespecial 36, 3) := by decide +kernel
theorem dX10_init_67 : decode cX10_init 67 = .ok (.putfield 39, 3) := by decide +kernel
theorem dX10_init_70 : decode cX10_init 70 = .ok (.aload_n 0, 1) := by decide +kernel
theorem dX10_init_71 : decode cX10_init 71 = .ok (.new 43, 3) := by decide +kernel
theorem dX10_init_74 : decode cX10_init 74 = .ok (.dup, 1) := by decide +kernel
theorem dX10_init_75 : decode cX10_init 75 = .ok (.aload_n 0, 1) := by decide +kernel
theorem dX10_init_76 : decode cX10_init 76 = .ok (.getfield 20, 3) := by decide +kernel
theorem dX10_init_79 : decode cX10_init 79 = .ok (.aload_n 0, 1) := by decide +kernel
theorem dX10_init_80 : decode cX10_init 80 = .ok (.getfield 31, 3) := by decide +kernel
theorem dX10_init_83 : decode cX10_init 83 = .ok (.invokespecial 45, 3) := by decide +kernel
theorem dX10_init_86 : decode cX10_init 86 = .ok (.putfield 46, 3) := by decide +kernel
theorem dX10_init_89 : decode cX10_init 89 = .ok (.aload_n 0, 1) := by decide +kernel
theorem dX10_init_90 : decode cX10_init 90 = .ok (.new 50, 3) := by decide +kernel
theorem dX10_init_93 : decode cX10_init 93 = .ok (.dup, 1) := by decide +kernel
theorem dX10_init_94 : decode cX10_init 94 = .ok (.invokespecial 52, 3) := by decide +kernel
theorem dX10_init_97 : decode cX10_init 97 = .ok (.putfield 53, 3) := by decide +kernel
theorem dX10_init_100 : decode cX10_init 100 = .ok (.aload_n 0, 1) := by decide +kernel
theorem dX10_init_101 : decode cX10_init 101 = .ok (.new 57, 3) := by decide +kernel
theorem dX10_init_104 : decode cX10_init 104 = .ok (.dup, 1) := by decide +kernel
theorem dX10_init_105 : decode cX10_init 105 = .ok (.invokespecial 59, 3) := by decide +kernel
theorem dX10_init_108 : decode cX10_init 108 = .ok (.putfield 60, 3) := by decide +kernel
theorem dX10_init_111 : decode cX10_init 111 = .ok (.aload_n 0, 1) := by decide +kernel
theorem dX10_init_112 : decode cX10_init 112 = .ok (.new 57, 3) := by decide +kernel
theorem dX10_init_115 : decode cX10_init 115 = .ok (.dup, 1) := by decide +kernel
theorem dX10_init_116 : decode cX10_init 116 = .ok (.invokespecial 59, 3) := by decide +kernel
theorem dX10_init_119 : decode cX10_init 119 = .ok (.putfield 64, 3) := by decide +kernel
theorem dX10_init_122 : decode cX10_init 122 = .ok (.aload_n 0, 1) := by decide +kernel
theorem dX10_init_123 : decode cX10_init 123 = .ok (.new 67, 3) := by decide +kernel
theorem dX10_init_126 : decode cX10_init 126 = .ok (.dup, 1) := by decide +kernel
theorem dX10_init_127 : decode cX10_init 127 = .ok (.aload_n 0, 1) := by decide +kernel
theorem dX10_init_128 : decode cX10_init 128 = .ok (.getfield 53, 3) := by decide +kernel
theorem dX10_init_131 : decode cX10_init 131 = .ok (.aload_n 0, 1) := by decide +kernel
theorem dX10_init_132 : decode cX10_init 132 = .ok (.getfield 27, 3) := by decide +kernel
theorem dX10_init_135 : decode cX10_init 135 = .ok (.invokespecial 69, 3) := by decide +kernel
theorem dX10_init_138 : decode cX10_init 138 = .ok (.putfield 72, 3) := by decide +kernel
theorem dX10_init_141 : decode cX10_init 141 = .ok (.aload_n 0, 1) := by decide +kernel
theorem dX10_init_142 : decode cX10_init 142 = .ok (.new 76, 3) := by decide +kernel
theorem dX10_init_145 : decode cX10_init 145 = .ok (.dup, 1) := by decide +kernel
theorem dX10_init_146 : decode cX10_init 146 = .ok (.invokespecial 78, 3) := by decide +kernel
theorem dX10_init_149 : decode cX10_init 149 = .ok (.putfield 79, 3) := by decide +kernel
theorem dX10_init_152 : decode cX10_init 152 = .ok (.aload_n 0, 1) := by decide +kernel
theorem dX10_init_153 : decode cX10_init 153 = .ok (.new 83, 3) := by decide +kernel
theorem dX10_init_156 : decode cX10_init 156 = .ok (.dup, 1) := by decide +kernel
theorem dX10_init_157 : decode cX10_init 157 = .ok (.invokespecial 85, 3) := by decide +kernel
theorem dX10_init_160 : decode cX10_init 160 = .ok (.putfield 86, 3) := by decide +kernel
theorem dX10_init_163 : decode cX10_init 163 = .ok (.aload_n 0, 1) := by decide +kernel
theorem dX10_init_164 : decode cX10_init 164 = .ok (.bipush 20, 2) := by decide +kernel
theorem dX10_init_166 : decode cX10_init 166 = .ok (.newarray .int, 2) := by decide +kernel
theorem dX10_init_168 : decode cX10_init 168 = .ok (.putfield 90, 3) := by decide +kernel
theorem dX10_init_171 : decode cX10_init 171 = .ok (.aload_n 0, 1) := by decide +kernel
theorem dX10_init_172 : decode cX10_init 172 = .ok (.iconst 0, 1) := by decide +kernel
theorem dX10_init_173 : decode cX10_init 173 = .ok (.putfield 94, 3) := by decide +kernel
theorem dX10_init_176 : decode cX10_init 176 = .ok (.aload_n 0, 1) := by decide +kernel
theorem dX10_init_177 : decode cX10_init 177 = .ok (.iconst 0, 1) := by decide +kernel
theorem dX10_init_178 : decode cX10_init 178 = .ok (.putfield 97, 3) := by decide +kernel
theorem dX10_init_181 : decode cX10_init 181 = .ok (.aload_n 0, 1) := by decide +kernel
theorem dX10_init_182 : decode cX10_init 182 = .ok (.bipush 61, 2) := by decide +kernel
theorem dX10_init_184 : decode cX10_init 184 = .ok (.newarray .int, 2) := by decide +kernel
theorem dX10_init_186 : decode cX10_init 186 = .ok (.putfield 100, 3) := by decide +kernel
theorem dX10_init_189 : decode cX10_init 189 = .ok (.return_, 1) := by decide +kernel
theorem dX10_feed_0 : decode cX10_feed 0 = .ok (.aload_n 0, 1) := by decide +kernel
theorem dX10_feed_1 : decode cX10_feed 1 = .ok (.getfield 13, 3) := by decide +kernel
theorem dX10_feed_4 : decode cX10_feed 4 = .ok (.sipush 1980, 3) := by decide +kernel
theorem dX10_feed_7 : decode cX10_feed 7 = .ok (.if_icmp .le 5, 3) := by decide +kernel
theorem dX10_feed_10 : decode cX10_feed 10 = .ok (.iconst (-1), 1) := by decide +kernel
theorem dX10_feed_11 : decode cX10_feed 11 = .ok (.ireturn, 1) := by decide +kernel
theorem dX10_feed_12 : decode cX10_feed 12 = .ok (.aload_n 0, 1) := by decide +kernel
theorem dX10_feed_13 : decode cX10_feed 13 = .ok (.iload_n 1, 1) := by decide +kernel
theorem dX10_feed_14 : decode cX10_feed 14 = .ok (.invokevirtual 103, 3) := by decide +kernel
theorem dX10_feed_17 : decode cX10_feed 17 = .ok (.aload_n 0, 1) := by decide +kernel
theorem dX10_feed_18 : decode cX10_feed 18 = .ok (.iload_n 2, 1) := by decide +kernel
theorem dX10_feed_19 : decode cX10_feed 19 = .ok (.invokevirtual 103, 3) := by decide +kernel
theorem dX10_feed_22 : decode cX10_feed 22 = .ok (.aload_n 0, 1) := by decide +kernel
theorem dX10_feed_23 : decode cX10_feed 23 = .ok (.iload_n 3, 1) := by decide +kernel
theorem dX10_feed_24 : decode cX10_feed 24 = .ok (.invokevirtual 103, 3) := by decide +kernel
theorem dX10_feed_27 : decode cX10_feed 27 = .ok (.aload_n 0, 1) := by decide +kernel
theorem dX10_feed_28 : decode cX10_feed 28 = .ok (.iload 4, 2) := by decide +kernel
theorem dX10_feed_30 : decode cX10_feed 30 = .ok (.invokevirtual 103, 3) := by decide +kernel
theorem dX10_feed_33 : decode cX10_feed 33 = .ok (.aload_n 0, 1) := by decide +kernel
theorem dX10_feed_34 : decode cX10_feed 34 = .ok (.iload 5, 2) := by decide +kernel
theorem dX10_feed_36 : decode cX10_feed 36 = .ok (.invokevirtual 103, 3) := by decide +kernel
theorem dX10_feed_39 : decode cX10_feed 39 = .ok (.aload_n 0, 1) := by decide +kernel
theorem dX10_feed_40 : decode cX10_feed 40 = .ok (.getfield 13, 3) := by decide +kernel
theorem dX10_feed_43 : decode cX10_feed 43 = .ok (.ireturn, 1) := by decide +kernel
theorem dX10_back_0 : decode cX10_back 0 = .ok (.iload_n 1, 1) := by decide +kernel
theorem dX10_back_1 : decode cX10_back 1 = .ok (.ifCond .lt 11, 3) := by decide +kernel
theorem dX10_back_4 : decode cX10_back 4 = .ok (.iload_n 1, 1) := by decide +kernel
theorem dX10_back_5 : decode cX10_back 5 = .ok (.aload_n 0, 1) := by decide +kernel
theorem dX10_back_6 : decode cX10_back 6 = .ok (.getfield 13, 3) := by decide +kernel
theorem dX10_back_9 : decode cX10_back 9 = .ok (.if_icmp .le 5, 3) := by decide +kernel
theorem dX10_back_12 : decode cX10_back 12 = .ok (.iconst (-1), 1) := by decide +kernel
theorem dX10_back_13 : decode cX10_back 13 = .ok (.ireturn, 1) := by decide +kernel
theorem dX10_back_14 : decode cX10_back 14 = .ok (.aload_n 0, 1) := by decide +kernel
theorem dX10_back_15 : decode cX10_back 15 = .ok (.dup, 1) := by decide +kernel
theorem dX10_back_16 : decode cX10_back 16 = .ok (.getfield 13, 3) := by decide +kernel
theorem dX10_back_19 : decode cX10_back 19 = .ok (.iload_n 1, 1) := by decide +kernel
theorem dX10_back_20 : decode cX10_back 20 = .ok (.isub, 1) := by decide +kernel
theorem dX10_back_21 : decode cX10_back 21 = .ok (.putfield 13, 3) := by decide +kernel
theorem dX10_back_24 : decode cX10_back 24 = .ok (.aload_n 0, 1) := by decide +kernel
theorem dX10_back_25 : decode cX10_back 25 = .ok (.getfield 13, 3) := by decide +kernel
theorem dX10_back_28 : decode cX10_back 28 = .ok (.ireturn, 1) := by decide +kernel
theorem dX10_read_0 : decode cX10_read 0 = .ok (.aload_n 0, 1) := by decide +kernel
theorem dX10_read_1 : decode cX10_read 1 = .ok (.getfield 20, 3) := by decide +kernel
theorem dX10_read_4 : decode cX10_read 4 = .ok (.aload_n 0, 1) := by decide +kernel
theorem dX10_read_5 : decode cX10_read 5 = .ok (.getfield 9, 3) := by decide +kernel
theorem dX10_read_8 : decode cX10_read 8 = .ok (.aload_n 0, 1) := by decide +kernel
theorem dX10_read_9 : decode cX10_read 9 = .ok (.getfield 13, 3) := by decide +kernel
theorem dX10_read_12 : decode cX10_read 12 = .ok (.invokevirtual 107, 3) := by decide +kernel
theorem dX10_read_15 : decode cX10_read 15 = .ok (.aload_n 0, 1) := by decide +kernel
theorem dX10_read_16 : decode cX10_read 16 = .ok (.iconst 0, 1) := by decide +kernel
theorem dX10_read_17 : decode cX10_read 17 = .ok (.putfield 13, 3) := by decide +kernel
theorem dX10_read_20 : decode cX10_read 20 = .ok (.aload_n 0, 1) := by decide +kernel
theorem dX10_read_21 : decode cX10_read 21 = .ok (.getfield 31, 3) := by decide +kernel
theorem dX10_read_24 : decode cX10_read 24 = .ok (.invokevirtual 111, 3) := by decide +kernel
theorem dX10_read_27 : decode cX10_read 27 = .ok (.aload_n 0, 1) := by decide +kernel
theorem dX10_read_28 : decode cX10_read 28 = .ok (.getfield 39, 3) := by decide +kernel
theorem dX10_read_31 : decode cX10_read 31 = .ok (.aload_n 0, 1) := by decide +kernel
theorem dX10_read_32 : decode cX10_read 32 = .ok (.getfield 31, 3) := by decide +kernel
theorem dX10_read_35 : decode cX10_read 35 = .ok (.invokevirtual 114, 3) := by decide +kernel
theorem dX10_read_38 : decode cX10_read 38 = .ok (.ifCond .eq 21, 3) := by decide +kernel
theorem dX10_read_41 : decode cX10_read 41 = .ok (.aload_n 0, 1) := by decide +kernel
theorem dX10_read_42 : decode cX10_read 42 = .ok (.getfield 46, 3) := by decide +kernel
theorem dX10_read_45 : decode cX10_read 45 = .ok (.aload_n 0, 1) := by decide +kernel
theorem dX10_read_46 : decode cX10_read 46 = .ok (.getfield 31, 3) := by decide +kernel
theorem dX10_read_49 : decode cX10_read 49 = .ok (.invokevirtual 118, 3) := by decide +kernel
theorem dX10_read_52 : decode cX10_read 52 = .ok (.ifCond .eq 7, 3) := by decide +kernel
theorem dX10_read_55 : decode cX10_read 55 = .ok (.aload_n 0, 1) := by decide +kernel
theorem dX10_read_56 : decode cX10_read 56 = .ok (.invokevirtual 121, 3) := by decide +kernel
theorem dX10_read_59 : decode cX10_read 59 = .ok (.aload_n 0, 1) := by decide +kernel
theorem dX10_read_60 : decode cX10_read 60 = .ok (.getfield 20, 3) := by decide +kernel
theorem dX10_read_63 : decode cX10_read 63 = .ok (.getfield 124, 3) := by decide +kernel
theorem dX10_read_66 : decode cX10_read 66 = .ok (.ireturn, 1) := by decide +kernel
theorem dX10_place_0 : decode cX10_place 0 = .ok (.aload_n 0, 1) := by decide +kernel
theorem dX10_place_1 : decode cX10_place 1 = .ok (.getfield 20, 3) := by decide +kernel
theorem dX10_place_4 : decode cX10_place 4 = .ok (.getfield 127, 3) := by decide +kernel
theorem dX10_place_7 : decode cX10_place 7 = .ok (.ireturn, 1) := by decide +kernel
theorem dX10_plot_0 : decode cX10_plot 0 = .ok (.aload_n 0, 1) := by decide +kernel
theorem dX10_plot_1 : decode cX10_plot 1 = .ok (.iload_n 1, 1) := by decide +kernel
theorem dX10_plot_2 : decode cX10_plot 2 = .ok (.invokevirtual 130, 3) := by decide +kernel
theorem dX10_plot_5 : decode cX10_plot 5 = .ok (.ifCond .eq 5, 3) := by decide +kernel
theorem dX10_plot_8 : decode cX10_plot 8 = .ok (.iconst (-1), 1) := by decide +kernel
theorem dX10_plot_9 : decode cX10_plot 9 = .ok (.ireturn, 1) := by decide +kernel
theorem dX10_plot_10 : decode cX10_plot 10 = .ok (.iload_n 2, 1) := by decide +kernel
theorem dX10_plot_11 : decode cX10_plot 11 = .ok (.tableswitch 92 0 4 #[33, 43, 53, 63, 76], 33) := by decide +kernel
theorem dX10_plot_44 : decode cX10_plot 44 = .ok (.aload_n 0, 1) := by decide +kernel
theorem dX10_plot_45 : decode cX10_plot 45 = .ok (.getfield 27, 3) := by decide +kernel
theorem dX10_plot_48 : decode cX10_plot 48 = .ok (.getfield 134, 3) := by decide +kernel
theorem dX10_plot_51 : decode cX10_plot 51 = .ok (.iload_n 1, 1) := by decide +kernel
theorem dX10_plot_52 : decode cX10_plot 52 = .ok (.iaload, 1) := by decide +kernel
theorem dX10_plot_53 : decode cX10_plot 53 = .ok (.ireturn, 1) := by decide +kernel
theorem dX10_plot_54 : decode cX10_plot 54 = .ok (.aload_n 0, 1) := by decide +kernel
theorem dX10_plot_55 : decode cX10_plot 55 = .ok (.getfield 27, 3) := by decide +kernel
theorem dX10_plot_58 : decode cX10_plot 58 = .ok (.getfield 137, 3) := by decide +kernel
theorem dX10_plot_61 : decode cX10_plot 61 = .ok (.iload_n 1, 1) := by decide +kernel
theorem dX10_plot_62 : decode cX10_plot 62 = .ok (.iaload, 1) := by decide +kernel
theorem dX10_plot_63 : decode cX10_plot 63 = .ok (.ireturn, 1) := by decide +kernel
theorem dX10_plot_64 : decode cX10_plot 64 = .ok (.aload_n 0, 1) := by decide +kernel
theorem dX10_plot_65 : decode cX10_plot 65 = .ok (.getfield 27, 3) := by decide +kernel
theorem dX10_plot_68 : decode cX10_plot 68 = .ok (.getfield 140, 3) := by decide +kernel
theorem dX10_plot_71 : decode cX10_plot 71 = .ok (.iload_n 1, 1) := by decide +kernel
theorem dX10_plot_72 : decode cX10_plot 72 = .ok (.iaload, 1) := by decide +kernel
theorem dX10_plot_73 : decode cX10_plot 73 = .ok (.ireturn, 1) := by decide +kernel
theorem dX10_plot_74 : decode cX10_plot 74 = .ok (.aload_n 0, 1) := by decide +kernel
theorem dX10_plot_75 : decode cX10_plot 75 = .ok (.getfield 72, 3) := by decide +kernel
theorem dX10_plot_78 : decode cX10_plot 78 = .ok (.aload_n 0, 1) := by decide +kernel
theorem dX10_plot_79 : decode cX10_plot 79 = .ok (.getfield 60, 3) := by decide +kernel
theorem dX10_plot_82 : decode cX10_plot 82 = .ok (.iload_n 1, 1) := by decide +kernel
theorem dX10_plot_83 : decode cX10_plot 83 = .ok (.invokevirtual 143, 3) := by decide +kernel
theorem dX10_plot_86 : decode cX10_plot 86 = .ok (.ireturn, 1) := by decide +kernel
theorem dX10_plot_87 : decode cX10_plot 87 = .ok (.aload_n 0, 1) := by decide +kernel
theorem dX10_plot_88 : decode cX10_plot 88 = .ok (.getfield 72, 3) := by decide +kernel
theorem dX10_plot_91 : decode cX10_plot 91 = .ok (.aload_n 0, 1) := by decide +kernel
theorem dX10_plot_92 : decode cX10_plot 92 = .ok (.getfield 60, 3) := by decide +kernel
theorem dX10_plot_95 : decode cX10_plot 95 = .ok (.iload_n 1, 1) := by decide +kernel
theorem dX10_plot_96 : decode cX10_plot 96 = .ok (.invokevirtual 147, 3) := by decide +kernel
theorem dX10_plot_99 : decode cX10_plot 99 = .ok (.invokestatic 150, 3) := by decide +kernel
theorem dX10_plot_102 : decode cX10_plot 102 = .ok (.ireturn, 1) := by decide +kernel
theorem dX10_plot_103 : decode cX10_plot 103 = .ok (.iconst (-1), 1) := by decide +kernel
theorem dX10_plot_104 : decode cX10_plot 104 = .ok (.ireturn, 1) := by decide +kernel
theorem dX10_witness_0 : decode cX10_witness 0 = .ok (.aload_n 0, 1) := by decide +kernel
theorem dX10_witness_1 : decode cX10_witness 1 = .ok (.iload_n 1, 1) := by decide +kernel
theorem dX10_witness_2 : decode cX10_witness 2 = .ok (.invokevirtual 156, 3) := by decide +kernel
theorem dX10_witness_5 : decode cX10_witness 5 = .ok (.ifCond .eq 5, 3) := by decide +kernel
theorem dX10_witness_8 : decode cX10_witness 8 = .ok (.iconst (-1), 1) := by decide +kernel
theorem dX10_witness_9 : decode cX10_witness 9 = .ok (.ireturn, 1) := by decide +kernel
theorem dX10_witness_10 : decode cX10_witness 10 = .ok (.iload_n 2, 1) := by decide +kernel
theorem dX10_witness_11 : decode cX10_witness 11 = .ok (.tableswitch 94 0 4 #[33, 43, 53, 65, 81], 33) := by decide +kernel
theorem dX10_witness_44 : decode cX10_witness 44 = .ok (.aload_n 0, 1) := by decide +kernel
theorem dX10_witness_45 : decode cX10_witness 45 = .ok (.getfield 60, 3) := by decide +kernel
theorem dX10_witness_48 : decode cX10_witness 48 = .ok (.getfield 159, 3) := by decide +kernel
theorem dX10_witness_51 : decode cX10_witness 51 = .ok (.iload_n 1, 1) := by decide +kernel
theorem dX10_witness_52 : decode cX10_witness 52 = .ok (.iaload, 1) := by decide +kernel
theorem dX10_witness_53 : decode cX10_witness 53 = .ok (.ireturn, 1) := by decide +kernel
theorem dX10_witness_54 : decode cX10_witness 54 = .ok (.aload_n 0, 1) := by decide +kernel
theorem dX10_witness_55 : decode cX10_witness 55 = .ok (.getfield 27, 3) := by decide +kernel
theorem dX10_witness_58 : decode cX10_witness 58 = .ok (.getfield 162, 3) := by decide +kernel
theorem dX10_witness_61 : decode cX10_witness 61 = .ok (.iload_n 1, 1) := by decide +kernel
theorem dX10_witness_62 : decode cX10_witness 62 = .ok (.iaload, 1) := by decide +kernel
theorem dX10_witness_63 : decode cX10_witness 63 = .ok (.ireturn, 1) := by decide +kernel
theorem dX10_witness_64 : decode cX10_witness 64 = .ok (.aload_n 0, 1) := by decide +kernel
theorem dX10_witness_65 : decode cX10_witness 65 = .ok (.getfield 60, 3) := by decide +kernel
theorem dX10_witness_68 : decode cX10_witness 68 = .ok (.getfield 165, 3) := by decide +kernel
theorem dX10_witness_71 : decode cX10_witness 71 = .ok (.iload_n 1, 1) := by decide +kernel
theorem dX10_witness_72 : decode cX10_witness 72 = .ok (.ishr, 1) := by decide +kernel
theorem dX10_witness_73 : decode cX10_witness 73 = .ok (.iconst 1, 1) := by decide +kernel
theorem dX10_witness_74 : decode cX10_witness 74 = .ok (.iand, 1) := by decide +kernel
theorem dX10_witness_75 : decode cX10_witness 75 = .ok (.ireturn, 1) := by decide +kernel
theorem dX10_witness_76 : decode cX10_witness 76 = .ok (.aload_n 0, 1) := by decide +kernel
theorem dX10_witness_77 : decode cX10_witness 77 = .ok (.getfield 72, 3) := by decide +kernel
theorem dX10_witness_80 : decode cX10_witness 80 = .ok (.aload_n 0, 1) := by decide +kernel
theorem dX10_witness_81 : decode cX10_witness 81 = .ok (.getfield 60, 3) := by decide +kernel
theorem dX10_witness_84 : decode cX10_witness 84 = .ok (.iload_n 1, 1) := by decide +kernel
theorem dX10_witness_85 : decode cX10_witness 85 = .ok (.invokevirtual 168, 3) := by decide +kernel
theorem dX10_witness_88 : decode cX10_witness 88 = .ok (.invokestatic 150, 3) := by decide +kernel
theorem dX10_witness_91 : decode cX10_witness 91 = .ok (.ireturn, 1) := by decide +kernel
theorem dX10_witness_92 : decode cX10_witness 92 = .ok (.aload_n 0, 1) := by decide +kernel
theorem dX10_witness_93 : decode cX10_witness 93 = .ok (.getfield 72, 3) := by decide +kernel
theorem dX10_witness_96 : decode cX10_witness 96 = .ok (.aload_n 0, 1) := by decide +kernel
theorem dX10_witness_97 : decode cX10_witness 97 = .ok (.getfield 60, 3) := by decide +kernel
theorem dX10_witness_100 : decode cX10_witness 100 = .ok (.iload_n 1, 1) := by decide +kernel
theorem dX10_witness_101 : decode cX10_witness 101 = .ok (.invokevirtual 171, 3) := by decide +kernel
theorem dX10_witness_104 : decode cX10_witness 104 = .ok (.ireturn, 1) := by decide +kernel
theorem dX10_witness_105 : decode cX10_witness 105 = .ok (.iconst (-1), 1) := by decide +kernel
theorem dX10_witness_106 : decode cX10_witness 106 = .ok (.ireturn, 1) := by decide +kernel
theorem dX10_giving_0 : decode cX10_giving 0 = .ok (.aload_n 0, 1) := by decide +kernel
theorem dX10_giving_1 : decode cX10_giving 1 = .ok (.iload_n 1, 1) := by decide +kernel
theorem dX10_giving_2 : decode cX10_giving 2 = .ok (.invokevirtual 174, 3) := by decide +kernel
theorem dX10_giving_5 : decode cX10_giving 5 = .ok (.ifCond .eq 5, 3) := by decide +kernel
theorem dX10_giving_8 : decode cX10_giving 8 = .ok (.iconst (-1), 1) := by decide +kernel
theorem dX10_giving_9 : decode cX10_giving 9 = .ok (.ireturn, 1) := by decide +kernel
theorem dX10_giving_10 : decode cX10_giving 10 = .ok (.iload_n 2, 1) := by decide +kernel
theorem dX10_giving_11 : decode cX10_giving 11 = .ok (.tableswitch 187 0 8 #[49, 59, 69, 79, 97, 107, 129, 150, 175], 49) := by decide +kernel
theorem dX10_giving_60 : decode cX10_giving 60 = .ok (.aload_n 0, 1) := by decide +kernel
theorem dX10_giving_61 : decode cX10_giving 61 = .ok (.getfield 53, 3) := by decide +kernel
theorem dX10_giving_64 : decode cX10_giving 64 = .ok (.getfield 177, 3) := by decide +kernel
theorem dX10_giving_67 : decode cX10_giving 67 = .ok (.iload_n 1, 1) := by decide +kernel
theorem dX10_giving_68 : decode cX10_giving 68 = .ok (.iaload, 1) := by decide +kernel
theorem dX10_giving_69 : decode cX10_giving 69 = .ok (.ireturn, 1) := by decide +kernel
theorem dX10_giving_70 : decode cX10_giving 70 = .ok (.aload_n 0, 1) := by decide +kernel
theorem dX10_giving_71 : decode cX10_giving 71 = .ok (.getfield 53, 3) := by decide +kernel
theorem dX10_giving_74 : decode cX10_giving 74 = .ok (.getfield 180, 3) := by decide +kernel
theorem dX10_giving_77 : decode cX10_giving 77 = .ok (.iload_n 1, 1) := by decide +kernel
theorem dX10_giving_78 : decode cX10_giving 78 = .ok (.iaload, 1) := by decide +kernel
theorem dX10_giving_79 : decode cX10_giving 79 = .ok (.ireturn, 1) := by decide +kernel
theorem dX10_giving_80 : decode cX10_giving 80 = .ok (.aload_n 0, 1) := by decide +kernel
theorem dX10_giving_81 : decode cX10_giving 81 = .ok (.getfield 53, 3) := by decide +kernel
theorem dX10_giving_84 : decode cX10_giving 84 = .ok (.getfield 183, 3) := by decide +kernel
theorem dX10_giving_87 : decode cX10_giving 87 = .ok (.iload_n 1, 1) := by decide +kernel
theorem dX10_giving_88 : decode cX10_giving 88 = .ok (.iaload, 1) := by decide +kernel
theorem dX10_giving_89 : decode cX10_giving 89 = .ok (.ireturn, 1) := by decide +kernel
theorem dX10_giving_90 : decode cX10_giving 90 = .ok (.aload_n 0, 1) := by decide +kernel
theorem dX10_giving_91 : decode cX10_giving 91 = .ok (.getfield 60, 3) := by decide +kernel
theorem dX10_giving_94 : decode cX10_giving 94 = .ok (.getfield 186, 3) := by decide +kernel
theorem dX10_giving_97 : decode cX10_giving 97 = .ok (.aload_n 0, 1) := by decide +kernel
theorem dX10_giving_98 : decode cX10_giving 98 = .ok (.getfield 53, 3) := by decide +kernel
theorem dX10_giving_101 : decode cX10_giving 101 = .ok (.getfield 189, 3) := by decide +kernel
theorem dX10_giving_104 : decode cX10_giving 104 = .ok (.iload_n 1, 1) := by decide +kernel
theorem dX10_giving_105 : decode cX10_giving 105 = .ok (.iaload, 1) := by decide +kernel
theorem dX10_giving_106 : decode cX10_giving 106 = .ok (.isub, 1) := by decide +kernel
theorem dX10_giving_107 : decode cX10_giving 107 = .ok (.ireturn, 1) := by decide +kernel
theorem dX10_giving_108 : decode cX10_giving 108 = .ok (.aload_n 0, 1) := by decide +kernel
theorem dX10_giving_109 : decode cX10_giving 109 = .ok (.getfield 53, 3) := by decide +kernel
theorem dX10_giving_112 : decode cX10_giving 112 = .ok (.getfield 192, 3) := by decide +kernel
theorem dX10_giving_115 : decode cX10_giving 115 = .ok (.iload_n 1, 1) := by decide +kernel
theorem dX10_giving_116 : decode cX10_giving 116 = .ok (.iaload, 1) := by decide +kernel
theorem dX10_giving_117 : decode cX10_giving 117 = .ok (.ireturn, 1) := by decide +kernel
theorem dX10_giving_118 : decode cX10_giving 118 = .ok (.aload_n 0, 1) := by decide +kernel
theorem dX10_giving_119 : decode cX10_giving 119 = .ok (.getfield 72, 3) := by decide +kernel
theorem dX10_giving_122 : decode cX10_giving 122 = .ok (.aload_n 0, 1) := by decide +kernel
theorem dX10_giving_123 : decode cX10_giving 123 = .ok (.getfield 60, 3) := by decide +kernel
theorem dX10_giving_126 : decode cX10_giving 126 = .ok (.iload_n 1, 1) := by decide +kernel
theorem dX10_giving_127 : decode cX10_giving 127 = .ok (.aload_n 0, 1) := by decide +kernel
theorem dX10_giving_128 : decode cX10_giving 128 = .ok (.getfield 53, 3) := by decide +kernel
theorem dX10_giving_131 : decode cX10_giving 131 = .ok (.getfield 192, 3) := by decide +kernel
theorem dX10_giving_134 : decode cX10_giving 134 = .ok (.iload_n 1, 1) := by decide +kernel
theorem dX10_giving_135 : decode cX10_giving 135 = .ok (.iaload, 1) := by decide +kernel
theorem dX10_giving_136 : decode cX10_giving 136 = .ok (.invokevirtual 195, 3) := by decide +kernel
theorem dX10_giving_139 : decode cX10_giving 139 = .ok (.ireturn, 1) := by decide +kernel
theorem dX10_giving_140 : decode cX10_giving 140 = .ok (.aload_n 0, 1) := by decide +kernel
theorem dX10_giving_141 : decode cX10_giving 141 = .ok (.getfield 72, 3) := by decide +kernel
theorem dX10_giving_144 : decode cX10_giving 144 = .ok (.aload_n 0, 1) := by decide +kernel
theorem dX10_giving_145 : decode cX10_giving 145 = .ok (.getfield 60, 3) := by decide +kernel
theorem dX10_giving_148 : decode cX10_giving 148 = .ok (.iload_n 1, 1) := by decide +kernel
theorem dX10_giving_149 : decode cX10_giving 149 = .ok (.invokevirtual 199, 3) := by decide +kernel
theorem dX10_giving_152 : decode cX10_giving 152 = .ok (.ifCond .eq 7, 3) := by decide +kernel
theorem dX10_giving_155 : decode cX10_giving 155 = .ok (.iconst 1, 1) := by decide +kernel
theorem dX10_giving_156 : decode cX10_giving 156 = .ok (.goto 4, 3) := by decide +kernel
theorem dX10_giving_159 : decode cX10_giving 159 = .ok (.iconst 0, 1) := by decide +kernel
theorem dX10_giving_160 : decode cX10_giving 160 = .ok (.ireturn, 1) := by decide +kernel
theorem dX10_giving_161 : decode cX10_giving 161 = .ok (.aload_n 0, 1) := by decide +kernel
theorem dX10_giving_162 : decode cX10_giving 162 = .ok (.getfield 72, 3) := by decide +kernel
theorem dX10_giving_165 : decode cX10_giving 165 = .ok (.aload_n 0, 1) := by decide +kernel
theorem dX10_giving_166 : decode cX10_giving 166 = .ok (.getfield 60, 3) := by decide +kernel
theorem dX10_giving_169 : decode cX10_giving 169 = .ok (.aload_n 0, 1) := by decide +kernel
theorem dX10_giving_170 : decode cX10_giving 170 = .ok (.getfield 53, 3) := by decide +kernel
theorem dX10_giving_173 : decode cX10_giving 173 = .ok (.getfield 177, 3) := by decide +kernel
theorem dX10_giving_176 : decode cX10_giving 176 = .ok (.iload_n 1, 1) := by decide +kernel
theorem dX10_giving_177 : decode cX10_giving 177 = .ok (.iaload, 1) := by decide +kernel
theorem dX10_giving_178 : decode cX10_giving 178 = .ok (.invokevirtual 147, 3) := by decide +kernel
theorem dX10_giving_181 : decode cX10_giving 181 = .ok (.iload_n 1, 1) := by decide +kernel
theorem dX10_giving_182 : decode cX10_giving 182 = .ok (.ishr, 1) := by decide +kernel
theorem dX10_giving_183 : decode cX10_giving 183 = .ok (.iconst 1, 1) := by decide +kernel
theorem dX10_giving_184 : decode cX10_giving 184 = .ok (.iand, 1) := by decide +kernel
theorem dX10_giving_185 : decode cX10_giving 185 = .ok (.ireturn, 1) := by decide +kernel
theorem dX10_giving_186 : decode cX10_giving 186 = .ok (.aload_n 0, 1) := by decide +kernel
theorem dX10_giving_187 : decode cX10_giving 187 = .ok (.getfield 60, 3) := by decide +kernel
theorem dX10_giving_190 : decode cX10_giving 190 = .ok (.getfield 203, 3) := by decide +kernel
theorem dX10_giving_193 : decode cX10_giving 193 = .ok (.iload_n 1, 1) := by decide +kernel
theorem dX10_giving_194 : decode cX10_giving 194 = .ok (.ishr, 1) := by decide +kernel
theorem dX10_giving_195 : decode cX10_giving 195 = .ok (.iconst 1, 1) := by decide +kernel
theorem dX10_giving_196 : decode cX10_giving 196 = .ok (.iand, 1) := by decide +kernel
theorem dX10_giving_197 : decode cX10_giving 197 = .ok (.ireturn, 1) := by decide +kernel
theorem dX10_giving_198 : decode cX10_giving 198 = .ok (.iconst (-1), 1) := by decide +kernel
theorem dX10_giving_199 : decode cX10_giving 199 = .ok (.ireturn, 1) := by decide +kernel
theorem dX10_give_0 : decode cX10_give 0 = .ok (.aload_n 0, 1) := by decide +kernel
theorem dX10_give_1 : decode cX10_give 1 = .ok (.iload_n 1, 1) := by decide +kernel
theorem dX10_give_2 : decode cX10_give 2 = .ok (.invokevirtual 130, 3) := by decide +kernel
theorem dX10_give_5 : decode cX10_give 5 = .ok (.ifCond .ne 37, 3) := by decide +kernel
theorem dX10_give_8 : decode cX10_give 8 = .ok (.aload_n 0, 1) := by decide +kernel
theorem dX10_give_9 : decode cX10_give 9 = .ok (.iload_n 2, 1) := by decide +kernel
theorem dX10_give_10 : decode cX10_give 10 = .ok (.invokevirtual 206, 3) := by decide +kernel
theorem dX10_give_13 : decode cX10_give 13 = .ok (.ifCond .ne 29, 3) := by decide +kernel
theorem dX10_give_16 : decode cX10_give 16 = .ok (.aload_n 0, 1) := by decide +kernel
theorem dX10_give_17 : decode cX10_give 17 = .ok (.iload_n 3, 1) := by decide +kernel
theorem dX10_give_18 : decode cX10_give 18 = .ok (.invokevirtual 206, 3) := by decide +kernel
theorem dX10_give_21 : decode cX10_give 21 = .ok (.ifCond .ne 21, 3) := by decide +kernel
theorem dX10_give_24 : decode cX10_give 24 = .ok (.iload_n 2, 1) := by decide +kernel
theorem dX10_give_25 : decode cX10_give 25 = .ok (.iload_n 3, 1) := by decide +kernel
theorem dX10_give_26 : decode cX10_give 26 = .ok (.if_icmp .eq 16, 3) := by decide +kernel
theorem dX10_give_29 : decode cX10_give 29 = .ok (.iload 4, 2) := by decide +kernel
theorem dX10_give_31 : decode cX10_give 31 = .ok (.aload_n 0, 1) := by decide +kernel
theorem dX10_give_32 : decode cX10_give 32 = .ok (.getfield 27, 3) := by decide +kernel
theorem dX10_give_35 : decode cX10_give 35 = .ok (.getfield 209, 3) := by decide +kernel
theorem dX10_give_38 : decode cX10_give 38 = .ok (.iushr, 1) := by decide +kernel
theorem dX10_give_39 : decode cX10_give 39 = .ok (.ifCond .eq 5, 3) := by decide +kernel
theorem dX10_give_42 : decode cX10_give 42 = .ok (.iconst (-1), 1) := by decide +kernel
theorem dX10_give_43 : decode cX10_give 43 = .ok (.ireturn, 1) := by decide +kernel
theorem dX10_give_44 : decode cX10_give 44 = .ok (.aload_n 0, 1) := by decide +kernel
theorem dX10_give_45 : decode cX10_give 45 = .ok (.getfield 60, 3) := by decide +kernel
theorem dX10_give_48 : decode cX10_give 48 = .ok (.getfield 212, 3) := by decide +kernel
theorem dX10_give_51 : decode cX10_give 51 = .ok (.bipush 20, 2) := by decide +kernel
theorem dX10_give_53 : decode cX10_give 53 = .ok (.if_icmp .ge 18, 3) := by decide +kernel
theorem dX10_give_56 : decode cX10_give 56 = .ok (.iload 4, 2) := by decide +kernel
theorem dX10_give_58 : decode cX10_give 58 = .ok (.aload_n 0, 1) := by decide +kernel
theorem dX10_give_59 : decode cX10_give 59 = .ok (.getfield 60, 3) := by decide +kernel
theorem dX10_give_62 : decode cX10_give 62 = .ok (.getfield 165, 3) := by decide +kernel
theorem dX10_give_65 : decode cX10_give 65 = .ok (.iconst (-1), 1) := by decide +kernel
theorem dX10_give_66 : decode cX10_give 66 = .ok (.ixor, 1) := by decide +kernel
theorem dX10_give_67 : decode cX10_give 67 = .ok (.iand, 1) := by decide +kernel
theorem dX10_give_68 : decode cX10_give 68 = .ok (.ifCond .eq 6, 3) := by decide +kernel
theorem dX10_give_71 : decode cX10_give 71 = .ok (.bipush (-2), 2) := by decide +kernel
theorem dX10_give_73 : decode cX10_give 73 = .ok (.ireturn, 1) := by decide +kernel
theorem dX10_give_74 : decode cX10_give 74 = .ok (.aload_n 0, 1) := by decide +kernel
theorem dX10_give_75 : decode cX10_give 75 = .ok (.getfield 86, 3) := by decide +kernel
theorem dX10_give_78 : decode cX10_give 78 = .ok (.aload_n 0, 1) := by decide +kernel
theorem dX10_give_79 : decode cX10_give 79 = .ok (.getfield 60, 3) := by decide +kernel
theorem dX10_give_82 : decode cX10_give 82 = .ok (.invokevirtual 214, 3) := by decide +kernel
theorem dX10_give_85 : decode cX10_give 85 = .ok (.aload_n 0, 1) := by decide +kernel
theorem dX10_give_86 : decode cX10_give 86 = .ok (.getfield 60, 3) := by decide +kernel
theorem dX10_give_89 : decode cX10_give 89 = .ok (.getfield 212, 3) := by decide +kernel
theorem dX10_give_92 : decode cX10_give 92 = .ok (.istore 5, 2) := by decide +kernel
theorem dX10_give_94 : decode cX10_give 94 = .ok (.aload_n 0, 1) := by decide +kernel
theorem dX10_give_95 : decode cX10_give 95 = .ok (.getfield 53, 3) := by decide +kernel
theorem dX10_give_98 : decode cX10_give 98 = .ok (.iload 5, 2) := by decide +kernel
theorem dX10_give_100 : decode cX10_give 100 = .ok (.iload_n 1, 1) := by decide +kernel
theorem dX10_give_101 : decode cX10_give 101 = .ok (.iload_n 2, 1) := by decide +kernel
theorem dX10_give_102 : decode cX10_give 102 = .ok (.iload_n 3, 1) := by decide +kernel
theorem dX10_give_103 : decode cX10_give 103 = .ok (.aload_n 0, 1) := by decide +kernel
theorem dX10_give_104 : decode cX10_give 104 = .ok (.getfield 60, 3) := by decide +kernel
theorem dX10_give_107 : decode cX10_give 107 = .ok (.getfield 186, 3) := by decide +kernel
theorem dX10_give_110 : decode cX10_give 110 = .ok (.iload 4, 2) := by decide +kernel
theorem dX10_give_112 : decode cX10_give 112 = .ok (.invokevirtual 218, 3) := by decide +kernel
theorem dX10_give_115 : decode cX10_give 115 = .ok (.aload_n 0, 1) := by decide +kernel
theorem dX10_give_116 : decode cX10_give 116 = .ok (.getfield 60, 3) := by decide +kernel
theorem dX10_give_119 : decode cX10_give 119 = .ok (.iload 5, 2) := by decide +kernel
theorem dX10_give_121 : decode cX10_give 121 = .ok (.iconst 1, 1) := by decide +kernel
theorem dX10_give_122 : decode cX10_give 122 = .ok (.iadd, 1) := by decide +kernel
theorem dX10_give_123 : decode cX10_give 123 = .ok (.putfield 212, 3) := by decide +kernel
theorem dX10_give_126 : decode cX10_give 126 = .ok (.iload 5, 2) := by decide +kernel
theorem dX10_give_128 : decode cX10_give 128 = .ok (.ireturn, 1) := by decide +kernel
theorem dX10_unsay_0 : decode cX10_unsay 0 = .ok (.aload_n 0, 1) := by decide +kernel
theorem dX10_unsay_1 : decode cX10_unsay 1 = .ok (.iload_n 1, 1) := by decide +kernel
theorem dX10_unsay_2 : decode cX10_unsay 2 = .ok (.invokevirtual 174, 3) := by decide +kernel
theorem dX10_unsay_5 : decode cX10_unsay 5 = .ok (.ifCond .eq 5, 3) := by decide +kernel
theorem dX10_unsay_8 : decode cX10_unsay 8 = .ok (.iconst 0, 1) := by decide +kernel
theorem dX10_unsay_9 : decode cX10_unsay 9 = .ok (.ireturn, 1) := by decide +kernel
theorem dX10_unsay_10 : decode cX10_unsay 10 = .ok (.iconst 1, 1) := by decide +kernel
theorem dX10_unsay_11 : decode cX10_unsay 11 = .ok (.iload_n 1, 1) := by decide +kernel
theorem dX10_unsay_12 : decode cX10_unsay 12 = .ok (.ishl, 1) := by decide +kernel
theorem dX10_unsay_13 : decode cX10_unsay 13 = .ok (.istore_n 3, 1) := by decide +kernel
theorem dX10_unsay_14 : decode cX10_unsay 14 = .ok (.aload_n 0, 1) := by decide +kernel
theorem dX10_unsay_15 : decode cX10_unsay 15 = .ok (.getfield 60, 3) := by decide +kernel
theorem dX10_unsay_18 : decode cX10_unsay 18 = .ok (.getfield 203, 3) := by decide +kernel
theorem dX10_unsay_21 : decode cX10_unsay 21 = .ok (.iload_n 3, 1) := by decide +kernel
theorem dX10_unsay_22 : decode cX10_unsay 22 = .ok (.iand, 1) := by decide +kernel
theorem dX10_unsay_23 : decode cX10_unsay 23 = .ok (.ifCond .eq 7, 3) := by decide +kernel
theorem dX10_unsay_26 : decode cX10_unsay 26 = .ok (.iconst 1, 1) := by decide +kernel
theorem dX10_unsay_27 : decode cX10_unsay 27 = .ok (.goto 4, 3) := by decide +kernel
theorem dX10_unsay_30 : decode cX10_unsay 30 = .ok (.iconst 0, 1) := by decide +kernel
theorem dX10_unsay_31 : decode cX10_unsay 31 = .ok (.istore 4, 2) := by decide +kernel
theorem dX10_unsay_33 : decode cX10_unsay 33 = .ok (.iload 4, 2) := by decide +kernel
theorem dX10_unsay_35 : decode cX10_unsay 35 = .ok (.iload_n 2, 1) := by decide +kernel
theorem dX10_unsay_36 : decode cX10_unsay 36 = .ok (.if_icmp .ne 5, 3) := by decide +kernel
theorem dX10_unsay_39 : decode cX10_unsay 39 = .ok (.iconst 0, 1) := by decide +kernel
theorem dX10_unsay_40 : decode cX10_unsay 40 = .ok (.ireturn, 1) := by decide +kernel
theorem dX10_unsay_41 : decode cX10_unsay 41 = .ok (.aload_n 0, 1) := by decide +kernel
theorem dX10_unsay_42 : decode cX10_unsay 42 = .ok (.getfield 86, 3) := by decide +kernel
theorem dX10_unsay_45 : decode cX10_unsay 45 = .ok (.aload_n 0, 1) := by decide +kernel
theorem dX10_unsay_46 : decode cX10_unsay 46 = .ok (.getfield 60, 3) := by decide +kernel
theorem dX10_unsay_49 : decode cX10_unsay 49 = .ok (.invokevirtual 214, 3) := by decide +kernel
theorem dX10_unsay_52 : decode cX10_unsay 52 = .ok (.aload_n 0, 1) := by decide +kernel
theorem dX10_unsay_53 : decode cX10_unsay 53 = .ok (.getfield 60, 3) := by decide +kernel
theorem dX10_unsay_56 : decode cX10_unsay 56 = .ok (.dup, 1) := by decide +kernel
theorem dX10_unsay_57 : decode cX10_unsay 57 = .ok (.getfield 203, 3) := by decide +kernel
theorem dX10_unsay_60 : decode cX10_unsay 60 = .ok (.iload_n 3, 1) := by decide +kernel
theorem dX10_unsay_61 : decode cX10_unsay 61 = .ok (.ixor, 1) := by decide +kernel
theorem dX10_unsay_62 : decode cX10_unsay 62 = .ok (.putfield 203, 3) := by decide +kernel
theorem dX10_unsay_65 : decode cX10_unsay 65 = .ok (.iconst 1, 1) := by decide +kernel
theorem dX10_unsay_66 : decode cX10_unsay 66 = .ok (.ireturn, 1) := by decide +kernel
theorem dX10_years_0 : decode cX10_years 0 = .ok (.iload_n 1, 1) := by decide +kernel
theorem dX10_years_1 : decode cX10_years 1 = .ok (.invokestatic 222, 3) := by decide +kernel
theorem dX10_years_4 : decode cX10_years 4 = .ok (.ifCond .eq 5, 3) := by decide +kernel
theorem dX10_years_7 : decode cX10_years 7 = .ok (.iconst (-1), 1) := by decide +kernel
theorem dX10_years_8 : decode cX10_years 8 = .ok (.ireturn, 1) := by decide +kernel
theorem dX10_years_9 : decode cX10_years 9 = .ok (.iload_n 1, 1) := by decide +kernel
theorem dX10_years_10 : decode cX10_years 10 = .ok (.ifCond .le 33, 3) := by decide +kernel
theorem dX10_years_13 : decode cX10_years 13 = .ok (.aload_n 0, 1) := by decide +kernel
theorem dX10_years_14 : decode cX10_years 14 = .ok (.getfield 86, 3) := by decide +kernel
theorem dX10_years_17 : decode cX10_years 17 = .ok (.aload_n 0, 1) := by decide +kernel
theorem dX10_years_18 : decode cX10_years 18 = .ok (.getfield 60, 3) := by decide +kernel
theorem dX10_years_21 : decode cX10_years 21 = .ok (.invokevirtual 214, 3) := by decide +kernel
theorem dX10_years_24 : decode cX10_years 24 = .ok (.aload_n 0, 1) := by decide +kernel
theorem dX10_years_25 : decode cX10_years 25 = .ok (.getfield 72, 3) := by decide +kernel
theorem dX10_years_28 : decode cX10_years 28 = .ok (.aload_n 0, 1) := by decide +kernel
theorem dX10_years_29 : decode cX10_years 29 = .ok (.getfield 60, 3) := by decide +kernel
theorem dX10_years_32 : decode cX10_years 32 = .ok (.iload_n 1, 1) := by decide +kernel
theorem dX10_years_33 : decode cX10_years 33 = .ok (.aload_n 0, 1) := by decide +kernel
theorem dX10_years_34 : decode cX10_years 34 = .ok (.getfield 27, 3) := by decide +kernel
theorem dX10_years_37 : decode cX10_years 37 = .ok (.getfield 225, 3) := by decide +kernel
theorem dX10_years_40 : decode cX10_years 40 = .ok (.invokevirtual 228, 3) := by decide +kernel
theorem dX10_years_43 : decode cX10_years 43 = .ok (.aload_n 0, 1) := by decide +kernel
theorem dX10_years_44 : decode cX10_years 44 = .ok (.getfield 60, 3) := by decide +kernel
theorem dX10_years_47 : decode cX10_years 47 = .ok (.getfield 186, 3) := by decide +kernel
theorem dX10_years_50 : decode cX10_years 50 = .ok (.ireturn, 1) := by decide +kernel
theorem dX10_undo_0 : decode cX10_undo 0 = .ok (.aload_n 0, 1) := by decide +kernel
theorem dX10_undo_1 : decode cX10_undo 1 = .ok (.getfield 86, 3) := by decide +kernel
theorem dX10_undo_4 : decode cX10_undo 4 = .ok (.aload_n 0, 1) := by decide +kernel
theorem dX10_undo_5 : decode cX10_undo 5 = .ok (.getfield 60, 3) := by decide +kernel
theorem dX10_undo_8 : decode cX10_undo 8 = .ok (.invokevirtual 232, 3) := by decide +kernel
theorem dX10_undo_11 : decode cX10_undo 11 = .ok (.ireturn, 1) := by decide +kernel
theorem dX10_lasts_0 : decode cX10_lasts 0 = .ok (.aload_n 0, 1) := by decide +kernel
theorem dX10_lasts_1 : decode cX10_lasts 1 = .ok (.iload_n 1, 1) := by decide +kernel
theorem dX10_lasts_2 : decode cX10_lasts 2 = .ok (.invokevirtual 174, 3) := by decide +kernel
theorem dX10_lasts_5 : decode cX10_lasts 5 = .ok (.ifCond .eq 5, 3) := by decide +kernel
theorem dX10_lasts_8 : decode cX10_lasts 8 = .ok (.iconst (-1), 1) := by decide +kernel
theorem dX10_lasts_9 : decode cX10_lasts 9 = .ok (.ireturn, 1) := by decide +kernel
theorem dX10_lasts_10 : decode cX10_lasts 10 = .ok (.aload_n 0, 1) := by decide +kernel
theorem dX10_lasts_11 : decode cX10_lasts 11 = .ok (.getfield 64, 3) := by decide +kernel
theorem dX10_lasts_14 : decode cX10_lasts 14 = .ok (.aload_n 0, 1) := by decide +kernel
theorem dX10_lasts_15 : decode cX10_lasts 15 = .ok (.getfield 60, 3) := by decide +kernel
theorem dX10_lasts_18 : decode cX10_lasts 18 = .ok (.invokevirtual 236, 3) := by decide +kernel
theorem dX10_lasts_21 : decode cX10_lasts 21 = .ok (.iconst 0, 1) := by decide +kernel
theorem dX10_lasts_22 : decode cX10_lasts 22 = .ok (.istore_n 2, 1) := by decide +kernel
theorem dX10_lasts_23 : decode cX10_lasts 23 = .ok (.iload_n 2, 1) := by decide +kernel
theorem dX10_lasts_24 : decode cX10_lasts 24 = .ok (.sipush 200, 3) := by decide +kernel
theorem dX10_lasts_27 : decode cX10_lasts 27 = .ok (.if_icmp .gt 37, 3) := by decide +kernel
theorem dX10_lasts_30 : decode cX10_lasts 30 = .ok (.aload_n 0, 1) := by decide +kernel
theorem dX10_lasts_31 : decode cX10_lasts 31 = .ok (.getfield 72, 3) := by decide +kernel
theorem dX10_lasts_34 : decode cX10_lasts 34 = .ok (.aload_n 0, 1) := by decide +kernel
theorem dX10_lasts_35 : decode cX10_lasts 35 = .ok (.getfield 64, 3) := by decide +kernel
theorem dX10_lasts_38 : decode cX10_lasts 38 = .ok (.iload_n 1, 1) := by decide +kernel
theorem dX10_lasts_39 : decode cX10_lasts 39 = .ok (.invokevirtual 199, 3) := by decide +kernel
theorem dX10_lasts_42 : decode cX10_lasts 42 = .ok (.ifCond .ne 5, 3) := by decide +kernel
theorem dX10_lasts_45 : decode cX10_lasts 45 = .ok (.iload_n 2, 1) := by decide +kernel
theorem dX10_lasts_46 : decode cX10_lasts 46 = .ok (.ireturn, 1) := by decide +kernel
theorem dX10_lasts_47 : decode cX10_lasts 47 = .ok (.aload_n 0, 1) := by decide +kernel
theorem dX10_lasts_48 : decode cX10_lasts 48 = .ok (.getfield 72, 3) := by decide +kernel
theorem dX10_lasts_51 : decode cX10_lasts 51 = .ok (.aload_n 0, 1) := by decide +kernel
theorem dX10_lasts_52 : decode cX10_lasts 52 = .ok (.getfield 64, 3) := by decide +kernel
theorem dX10_lasts_55 : decode cX10_lasts 55 = .ok (.invokevirtual 239, 3) := by decide +kernel
theorem dX10_lasts_58 : decode cX10_lasts 58 = .ok (.iinc 2 1, 3) := by decide +kernel
theorem dX10_lasts_61 : decode cX10_lasts 61 = .ok (.goto (-38), 3) := by decide +kernel
theorem dX10_lasts_64 : decode cX10_lasts 64 = .ok (.bipush (-2), 2) := by decide +kernel
theorem dX10_lasts_66 : decode cX10_lasts 66 = .ok (.ireturn, 1) := by decide +kernel
theorem dX10_book_0 : decode cX10_book 0 = .ok (.iconst 0, 1) := by decide +kernel
theorem dX10_book_1 : decode cX10_book 1 = .ok (.istore_n 1, 1) := by decide +kernel
theorem dX10_book_2 : decode cX10_book 2 = .ok (.iconst 0, 1) := by decide +kernel
theorem dX10_book_3 : decode cX10_book 3 = .ok (.istore_n 2, 1) := by decide +kernel
theorem dX10_book_4 : decode cX10_book 4 = .ok (.iload_n 2, 1) := by decide +kernel
theorem dX10_book_5 : decode cX10_book 5 = .ok (.aload_n 0, 1) := by decide +kernel
theorem dX10_book_6 : decode cX10_book 6 = .ok (.getfield 27, 3) := by decide +kernel
theorem dX10_book_9 : decode cX10_book 9 = .ok (.getfield 242, 3) := by decide +kernel
theorem dX10_book_12 : decode cX10_book 12 = .ok (.if_icmp .ge 39, 3) := by decide +kernel
theorem dX10_book_15 : decode cX10_book 15 = .ok (.aload_n 0, 1) := by decide +kernel
theorem dX10_book_16 : decode cX10_book 16 = .ok (.getfield 72, 3) := by decide +kernel
theorem dX10_book_19 : decode cX10_book 19 = .ok (.aload_n 0, 1) := by decide +kernel
theorem dX10_book_20 : decode cX10_book 20 = .ok (.getfield 60, 3) := by decide +kernel
theorem dX10_book_23 : decode cX10_book 23 = .ok (.iload_n 2, 1) := by decide +kernel
theorem dX10_book_24 : decode cX10_book 24 = .ok (.invokevirtual 245, 3) := by decide +kernel
theorem dX10_book_27 : decode cX10_book 27 = .ok (.aload_n 0, 1) := by decide +kernel
theorem dX10_book_28 : decode cX10_book 28 = .ok (.getfield 72, 3) := by decide +kernel
theorem dX10_book_31 : decode cX10_book 31 = .ok (.aload_n 0, 1) := by decide +kernel
theorem dX10_book_32 : decode cX10_book 32 = .ok (.getfield 60, 3) := by decide +kernel
theorem dX10_book_35 : decode cX10_book 35 = .ok (.iload_n 2, 1) := by decide +kernel
theorem dX10_book_36 : decode cX10_book 36 = .ok (.invokevirtual 143, 3) := by decide +kernel
theorem dX10_book_39 : decode cX10_book 39 = .ok (.if_icmp .eq 6, 3) := by decide +kernel
theorem dX10_book_42 : decode cX10_book 42 = .ok (.iinc 1 1, 3) := by decide +kernel
theorem dX10_book_45 : decode cX10_book 45 = .ok (.iinc 2 1, 3) := by decide +kernel
theorem dX10_book_48 : decode cX10_book 48 = .ok (.goto (-44), 3) := by decide +kernel
theorem dX10_book_51 : decode cX10_book 51 = .ok (.iload_n 1, 1) := by decide +kernel
theorem dX10_book_52 : decode cX10_book 52 = .ok (.ireturn, 1) := by decide +kernel
theorem dX10_hangs_0 : decode cX10_hangs 0 = .ok (.iload_n 1, 1) := by decide +kernel
theorem dX10_hangs_1 : decode cX10_hangs 1 = .ok (.ifCond .eq 10, 3) := by decide +kernel
theorem dX10_hangs_4 : decode cX10_hangs 4 = .ok (.iload_n 1, 1) := by decide +kernel
theorem dX10_hangs_5 : decode cX10_hangs 5 = .ok (.iconst 1, 1) := by decide +kernel
theorem dX10_hangs_6 : decode cX10_hangs 6 = .ok (.if_icmp .eq 5, 3) := by decide +kernel
theorem dX10_hangs_9 : decode cX10_hangs 9 = .ok (.iconst (-1), 1) := by decide +kernel
theorem dX10_hangs_10 : decode cX10_hangs 10 = .ok (.ireturn, 1) := by decide +kernel
theorem dX10_hangs_11 : decode cX10_hangs 11 = .ok (.bipush (-2), 2) := by decide +kernel
theorem dX10_hangs_13 : decode cX10_hangs 13 = .ok (.istore_n 2, 1) := by decide +kernel
theorem dX10_hangs_14 : decode cX10_hangs 14 = .ok (.bipush (-2), 2) := by decide +kernel
theorem dX10_hangs_16 : decode cX10_hangs 16 = .ok (.istore_n 3, 1) := by decide +kernel
theorem dX10_hangs_17 : decode cX10_hangs 17 = .ok (.iconst 0, 1) := by decide +kernel
theorem dX10_hangs_18 : decode cX10_hangs 18 = .ok (.istore 4, 2) := by decide +kernel
theorem dX10_hangs_20 : decode cX10_hangs 20 = .ok (.iload 4, 2) := by decide +kernel
theorem dX10_hangs_22 : decode cX10_hangs 22 = .ok (.aload_n 0, 1) := by decide +kernel
theorem dX10_hangs_23 : decode cX10_hangs 23 = .ok (.getfield 27, 3) := by decide +kernel
theorem dX10_hangs_26 : decode cX10_hangs 26 = .ok (.getfield 209, 3) := by decide +kernel
theorem dX10_hangs_29 : decode cX10_hangs 29 = .ok (.if_icmp .ge 84, 3) := by decide +kernel
theorem dX10_hangs_32 : decode cX10_hangs 32 = .ok (.iconst 1, 1) := by decide +kernel
theorem dX10_hangs_33 : decode cX10_hangs 33 = .ok (.iload 4, 2) := by decide +kernel
theorem dX10_hangs_35 : decode cX10_hangs 35 = .ok (.ishl, 1) := by decide +kernel
theorem dX10_hangs_36 : decode cX10_hangs 36 = .ok (.istore 5, 2) := by decide +kernel
theorem dX10_hangs_38 : decode cX10_hangs 38 = .ok (.aload_n 0, 1) := by decide +kernel
theorem dX10_hangs_39 : decode cX10_hangs 39 = .ok (.getfield 60, 3) := by decide +kernel
theorem dX10_hangs_42 : decode cX10_hangs 42 = .ok (.getfield 165, 3) := by decide +kernel
theorem dX10_hangs_45 : decode cX10_hangs 45 = .ok (.iload 5, 2) := by decide +kernel
theorem dX10_hangs_47 : decode cX10_hangs 47 = .ok (.iand, 1) := by decide +kernel
theorem dX10_hangs_48 : decode cX10_hangs 48 = .ok (.ifCond .eq 59, 3) := by decide +kernel
theorem dX10_hangs_51 : decode cX10_hangs 51 = .ok (.aload_n 0, 1) := by decide +kernel
theorem dX10_hangs_52 : decode cX10_hangs 52 = .ok (.getfield 64, 3) := by decide +kernel
theorem dX10_hangs_55 : decode cX10_hangs 55 = .ok (.aload_n 0, 1) := by decide +kernel
theorem dX10_hangs_56 : decode cX10_hangs 56 = .ok (.getfield 60, 3) := by decide +kernel
theorem dX10_hangs_59 : decode cX10_hangs 59 = .ok (.invokevirtual 236, 3) := by decide +kernel
theorem dX10_hangs_62 : decode cX10_hangs 62 = .ok (.aload_n 0, 1) := by decide +kernel
theorem dX10_hangs_63 : decode cX10_hangs 63 = .ok (.getfield 64, 3) := by decide +kernel
theorem dX10_hangs_66 : decode cX10_hangs 66 = .ok (.dup, 1) := by decide +kernel
theorem dX10_hangs_67 : decode cX10_hangs 67 = .ok (.getfield 165, 3) := by decide +kernel
theorem dX10_hangs_70 : decode cX10_hangs 70 = .ok (.iload 5, 2) := by decide +kernel
theorem dX10_hangs_72 : decode cX10_hangs 72 = .ok (.iconst (-1), 1) := by decide +kernel
theorem dX10_hangs_73 : decode cX10_hangs 73 = .ok (.ixor, 1) := by decide +kernel
theorem dX10_hangs_74 : decode cX10_hangs 74 = .ok (.iand, 1) := by decide +kernel
theorem dX10_hangs_75 : decode cX10_hangs 75 = .ok (.putfield 165, 3) := by decide +kernel
theorem dX10_hangs_78 : decode cX10_hangs 78 = .ok (.aload_n 0, 1) := by decide +kernel
theorem dX10_hangs_79 : decode cX10_hangs 79 = .ok (.getfield 72, 3) := by decide +kernel
theorem dX10_hangs_82 : decode cX10_hangs 82 = .ok (.aload_n 0, 1) := by decide +kernel
theorem dX10_hangs_83 : decode cX10_hangs 83 = .ok (.getfield 60, 3) := by decide +kernel
theorem dX10_hangs_86 : decode cX10_hangs 86 = .ok (.aload_n 0, 1) := by decide +kernel
theorem dX10_hangs_87 : decode cX10_hangs 87 = .ok (.getfield 64, 3) := by decide +kernel
theorem dX10_hangs_90 : decode cX10_hangs 90 = .ok (.invokevirtual 248, 3) := by decide +kernel
theorem dX10_hangs_93 : decode cX10_hangs 93 = .ok (.istore 6, 2) := by decide +kernel
theorem dX10_hangs_95 : decode cX10_hangs 95 = .ok (.iload 6, 2) := by decide +kernel
theorem dX10_hangs_97 : decode cX10_hangs 97 = .ok (.iload_n 3, 1) := by decide +kernel
theorem dX10_hangs_98 : decode cX10_hangs 98 = .ok (.if_icmp .le 9, 3) := by decide +kernel
theorem dX10_hangs_101 : decode cX10_hangs 101 = .ok (.iload 6, 2) := by decide +kernel
theorem dX10_hangs_103 : decode cX10_hangs 103 = .ok (.istore_n 3, 1) := by decide +kernel
theorem dX10_hangs_104 : decode cX10_hangs 104 = .ok (.iload 4, 2) := by decide +kernel
theorem dX10_hangs_106 : decode cX10_hangs 106 = .ok (.istore_n 2, 1) := by decide +kernel
theorem dX10_hangs_107 : decode cX10_hangs 107 = .ok (.iinc 4 1, 3) := by decide +kernel
theorem dX10_hangs_110 : decode cX10_hangs 110 = .ok (.goto (-90), 3) := by decide +kernel
theorem dX10_hangs_113 : decode cX10_hangs 113 = .ok (.iload_n 1, 1) := by decide +kernel
theorem dX10_hangs_114 : decode cX10_hangs 114 = .ok (.ifCond .ne 7, 3) := by decide +kernel
theorem dX10_hangs_117 : decode cX10_hangs 117 = .ok (.iload_n 2, 1) := by decide +kernel
theorem dX10_hangs_118 : decode cX10_hangs 118 = .ok (.goto 4, 3) := by decide +kernel
theorem dX10_hangs_121 : decode cX10_hangs 121 = .ok (.iload_n 3, 1) := by decide +kernel
theorem dX10_hangs_122 : decode cX10_hangs 122 = .ok (.ireturn, 1) := by decide +kernel
theorem dX10_cover_0 : decode cX10_cover 0 = .ok (.iload_n 1, 1) := by decide +kernel
theorem dX10_cover_1 : decode cX10_cover 1 = .ok (.invokestatic 222, 3) := by decide +kernel
theorem dX10_cover_4 : decode cX10_cover 4 = .ok (.ifCond .ne 13, 3) := by decide +kernel
theorem dX10_cover_7 : decode cX10_cover 7 = .ok (.iload_n 2, 1) := by decide +kernel
theorem dX10_cover_8 : decode cX10_cover 8 = .ok (.iconst (-1), 1) := by decide +kernel
theorem dX10_cover_9 : decode cX10_cover 9 = .ok (.if_icmp .lt 8, 3) := by decide +kernel
theorem dX10_cover_12 : decode cX10_cover 12 = .ok (.iload_n 2, 1) := by decide +kernel
theorem dX10_cover_13 : decode cX10_cover 13 = .ok (.iconst 4, 1) := by decide +kernel
theorem dX10_cover_14 : decode cX10_cover 14 = .ok (.if_icmp .lt 5, 3) := by decide +kernel
theorem dX10_cover_17 : decode cX10_cover 17 = .ok (.iconst (-1), 1) := by decide +kernel
theorem dX10_cover_18 : decode cX10_cover 18 = .ok (.ireturn, 1) := by decide +kernel
theorem dX10_cover_19 : decode cX10_cover 19 = .ok (.aload_n 0, 1) := by decide +kernel
theorem dX10_cover_20 : decode cX10_cover 20 = .ok (.iload_n 1, 1) := by decide +kernel
theorem dX10_cover_21 : decode cX10_cover 21 = .ok (.invokevirtual 252, 3) := by decide +kernel
theorem dX10_cover_24 : decode cX10_cover 24 = .ok (.istore_n 3, 1) := by decide +kernel
theorem dX10_cover_25 : decode cX10_cover 25 = .ok (.iload_n 3, 1) := by decide +kernel
theorem dX10_cover_26 : decode cX10_cover 26 = .ok (.ifCond .ne 6, 3) := by decide +kernel
theorem dX10_cover_29 : decode cX10_cover 29 = .ok (.bipush (-2), 2) := by decide +kernel
theorem dX10_cover_31 : decode cX10_cover 31 = .ok (.ireturn, 1) := by decide +kernel
theorem dX10_cover_32 : decode cX10_cover 32 = .ok (.iload_n 2, 1) := by decide +kernel
theorem dX10_cover_33 : decode cX10_cover 33 = .ok (.iconst (-1), 1) := by decide +kernel
theorem dX10_cover_34 : decode cX10_cover 34 = .ok (.if_icmp .ne 10, 3) := by decide +kernel
theorem dX10_cover_37 : decode cX10_cover 37 = .ok (.iload_n 3, 1) := by decide +kernel
theorem dX10_cover_38 : decode cX10_cover 38 = .ok (.invokestatic 150, 3) := by decide +kernel
theorem dX10_cover_41 : decode cX10_cover 41 = .ok (.goto 8, 3) := by decide +kernel
theorem dX10_cover_44 : decode cX10_cover 44 = .ok (.iload_n 3, 1) := by decide +kernel
theorem dX10_cover_45 : decode cX10_cover 45 = .ok (.iload_n 2, 1) := by decide +kernel
theorem dX10_cover_46 : decode cX10_cover 46 = .ok (.invokestatic 255, 3) := by decide +kernel
theorem dX10_cover_49 : decode cX10_cover 49 = .ok (.ireturn, 1) := by decide +kernel
theorem dX10_walk_0 : decode cX10_walk 0 = .ok (.aload_n 0, 1) := by decide +kernel
theorem dX10_walk_1 : decode cX10_walk 1 = .ok (.iload_n 1, 1) := by decide +kernel
theorem dX10_walk_2 : decode cX10_walk 2 = .ok (.invokevirtual 130, 3) := by decide +kernel
theorem dX10_walk_5 : decode cX10_walk 5 = .ok (.ifCond .ne 11, 3) := by decide +kernel
theorem dX10_walk_8 : decode cX10_walk 8 = .ok (.aload_n 0, 1) := by decide +kernel
theorem dX10_walk_9 : decode cX10_walk 9 = .ok (.iload_n 2, 1) := by decide +kernel
theorem dX10_walk_10 : decode cX10_walk 10 = .ok (.invokevirtual 130, 3) := by decide +kernel
theorem dX10_walk_13 : decode cX10_walk 13 = .ok (.ifCond .eq 5, 3) := by decide +kernel
theorem dX10_walk_16 : decode cX10_walk 16 = .ok (.iconst (-1), 1) := by decide +kernel
theorem dX10_walk_17 : decode cX10_walk 17 = .ok (.ireturn, 1) := by decide +kernel
theorem dX10_walk_18 : decode cX10_walk 18 = .ok (.aload_n 0, 1) := by decide +kernel
theorem dX10_walk_19 : decode cX10_walk 19 = .ok (.getfield 72, 3) := by decide +kernel
theorem dX10_walk_22 : decode cX10_walk 22 = .ok (.aload_n 0, 1) := by decide +kernel
theorem dX10_walk_23 : decode cX10_walk 23 = .ok (.getfield 60, 3) := by decide +kernel
theorem dX10_walk_26 : decode cX10_walk 26 = .ok (.iload_n 1, 1) := by decide +kernel
theorem dX10_walk_27 : decode cX10_walk 27 = .ok (.iload_n 2, 1) := by decide +kernel
theorem dX10_walk_28 : decode cX10_walk 28 = .ok (.invokevirtual 259, 3) := by decide +kernel
theorem dX10_walk_31 : decode cX10_walk 31 = .ok (.ireturn, 1) := by decide +kernel
theorem dX10_asks_0 : decode cX10_asks 0 = .ok (.aload_n 0, 1) := by decide +kernel
theorem dX10_asks_1 : decode cX10_asks 1 = .ok (.iload_n 1, 1) := by decide +kernel
theorem dX10_asks_2 : decode cX10_asks 2 = .ok (.invokevirtual 130, 3) := by decide +kernel
theorem dX10_asks_5 : decode cX10_asks 5 = .ok (.ifCond .eq 5, 3) := by decide +kernel
theorem dX10_asks_8 : decode cX10_asks 8 = .ok (.iconst (-1), 1) := by decide +kernel
theorem dX10_asks_9 : decode cX10_asks 9 = .ok (.ireturn, 1) := by decide +kernel
theorem dX10_asks_10 : decode cX10_asks 10 = .ok (.aload_n 0, 1) := by decide +kernel
theorem dX10_asks_11 : decode cX10_asks 11 = .ok (.getfield 72, 3) := by decide +kernel
theorem dX10_asks_14 : decode cX10_asks 14 = .ok (.aload_n 0, 1) := by decide +kernel
theorem dX10_asks_15 : decode cX10_asks 15 = .ok (.getfield 60, 3) := by decide +kernel
theorem dX10_asks_18 : decode cX10_asks 18 = .ok (.iload_n 1, 1) := by decide +kernel
theorem dX10_asks_19 : decode cX10_asks 19 = .ok (.invokevirtual 262, 3) := by decide +kernel
theorem dX10_asks_22 : decode cX10_asks 22 = .ok (.ireturn, 1) := by decide +kernel
theorem dX10_round_0 : decode cX10_round 0 = .ok (.iload_n 1, 1) := by decide +kernel
theorem dX10_round_1 : decode cX10_round 1 = .ok (.aload_n 0, 1) := by decide +kernel
theorem dX10_round_2 : decode cX10_round 2 = .ok (.getfield 27, 3) := by decide +kernel
theorem dX10_round_5 : decode cX10_round 5 = .ok (.getfield 242, 3) := by decide +kernel
theorem dX10_round_8 : decode cX10_round 8 = .ok (.iushr, 1) := by decide +kernel
theorem dX10_round_9 : decode cX10_round 9 = .ok (.ifCond .ne 16, 3) := by decide +kernel
theorem dX10_round_12 : decode cX10_round 12 = .ok (.iload_n 2, 1) := by decide +kernel
theorem dX10_round_13 : decode cX10_round 13 = .ok (.iconst (-1), 1) := by decide +kernel
theorem dX10_round_14 : decode cX10_round 14 = .ok (.if_icmp .lt 11, 3) := by decide +kernel
theorem dX10_round_17 : decode cX10_round 17 = .ok (.iload_n 2, 1) := by decide +kernel
theorem dX10_round_18 : decode cX10_round 18 = .ok (.iload_n 1, 1) := by decide +kernel
theorem dX10_round_19 : decode cX10_round 19 = .ok (.invokestatic 150, 3) := by decide +kernel
theorem dX10_round_22 : decode cX10_round 22 = .ok (.if_icmp .lt 5, 3) := by decide +kernel
theorem dX10_round_25 : decode cX10_round 25 = .ok (.iconst (-1), 1) := by decide +kernel
theorem dX10_round_26 : decode cX10_round 26 = .ok (.ireturn, 1) := by decide +kernel
theorem dX10_round_27 : decode cX10_round 27 = .ok (.aload_n 0, 1) := by decide +kernel
theorem dX10_round_28 : decode cX10_round 28 = .ok (.getfield 79, 3) := by decide +kernel
theorem dX10_round_31 : decode cX10_round 31 = .ok (.aload_n 0, 1) := by decide +kernel
theorem dX10_round_32 : decode cX10_round 32 = .ok (.getfield 72, 3) := by decide +kernel
theorem dX10_round_35 : decode cX10_round 35 = .ok (.aload_n 0, 1) := by decide +kernel
theorem dX10_round_36 : decode cX10_round 36 = .ok (.getfield 60, 3) := by decide +kernel
theorem dX10_round_39 : decode cX10_round 39 = .ok (.iload_n 1, 1) := by decide +kernel
theorem dX10_round_40 : decode cX10_round 40 = .ok (.invokevirtual 265, 3) := by decide +kernel
theorem dX10_round_43 : decode cX10_round 43 = .ok (.iload_n 2, 1) := by decide +kernel
theorem dX10_round_44 : decode cX10_round 44 = .ok (.iconst (-1), 1) := by decide +kernel
theorem dX10_round_45 : decode cX10_round 45 = .ok (.if_icmp .ne 14, 3) := by decide +kernel
theorem dX10_round_48 : decode cX10_round 48 = .ok (.aload_n 0, 1) := by decide +kernel
theorem dX10_round_49 : decode cX10_round 49 = .ok (.getfield 79, 3) := by decide +kernel
theorem dX10_round_52 : decode cX10_round 52 = .ok (.iload_n 1, 1) := by decide +kernel
theorem dX10_round_53 : decode cX10_round 53 = .ok (.invokevirtual 269, 3) := by decide +kernel
theorem dX10_round_56 : decode cX10_round 56 = .ok (.goto 12, 3) := by decide +kernel
theorem dX10_round_59 : decode cX10_round 59 = .ok (.aload_n 0, 1) := by decide +kernel
theorem dX10_round_60 : decode cX10_round 60 = .ok (.getfield 79, 3) := by decide +kernel
theorem dX10_round_63 : decode cX10_round 63 = .ok (.iload_n 1, 1) := by decide +kernel
theorem dX10_round_64 : decode cX10_round 64 = .ok (.iload_n 2, 1) := by decide +kernel
theorem dX10_round_65 : decode cX10_round 65 = .ok (.invokevirtual 272, 3) := by decide +kernel
theorem dX10_round_68 : decode cX10_round 68 = .ok (.ireturn, 1) := by decide +kernel
theorem dX10_has_0 : decode cX10_has 0 = .ok (.aload_n 0, 1) := by decide +kernel
theorem dX10_has_1 : decode cX10_has 1 = .ok (.iload_n 1, 1) := by decide +kernel
theorem dX10_has_2 : decode cX10_has 2 = .ok (.invokevirtual 206, 3) := by decide +kernel
theorem dX10_has_5 : decode cX10_has 5 = .ok (.ifCond .ne 10, 3) := by decide +kernel
theorem dX10_has_8 : decode cX10_has 8 = .ok (.iload_n 2, 1) := by decide +kernel
theorem dX10_has_9 : decode cX10_has 9 = .ok (.invokestatic 222, 3) := by decide +kernel
theorem dX10_has_12 : decode cX10_has 12 = .ok (.ifCond .eq 5, 3) := by decide +kernel
theorem dX10_has_15 : decode cX10_has 15 = .ok (.iconst (-1), 1) := by decide +kernel
theorem dX10_has_16 : decode cX10_has 16 = .ok (.ireturn, 1) := by decide +kernel
theorem dX10_has_17 : decode cX10_has 17 = .ok (.aload_n 0, 1) := by decide +kernel
theorem dX10_has_18 : decode cX10_has 18 = .ok (.iload_n 2, 1) := by decide +kernel
theorem dX10_has_19 : decode cX10_has 19 = .ok (.aload_n 0, 1) := by decide +kernel
theorem dX10_has_20 : decode cX10_has 20 = .ok (.getfield 27, 3) := by decide +kernel
theorem dX10_has_23 : decode cX10_has 23 = .ok (.getfield 225, 3) := by decide +kernel
theorem dX10_has_26 : decode cX10_has 26 = .ok (.invokevirtual 275, 3) := by decide +kernel
theorem dX10_has_29 : decode cX10_has 29 = .ok (.aload_n 0, 1) := by decide +kernel
theorem dX10_has_30 : decode cX10_has 30 = .ok (.getfield 72, 3) := by decide +kernel
theorem dX10_has_33 : decode cX10_has 33 = .ok (.aload_n 0, 1) := by decide +kernel
theorem dX10_has_34 : decode cX10_has 34 = .ok (.getfield 64, 3) := by decide +kernel
theorem dX10_has_37 : decode cX10_has 37 = .ok (.invokevirtual 279, 3) := by decide +kernel
theorem dX10_has_40 : decode cX10_has 40 = .ok (.aload_n 0, 1) := by decide +kernel
theorem dX10_has_41 : decode cX10_has 41 = .ok (.getfield 72, 3) := by decide +kernel
theorem dX10_has_44 : decode cX10_has 44 = .ok (.getfield 282, 3) := by decide +kernel
theorem dX10_has_47 : decode cX10_has 47 = .ok (.iload_n 1, 1) := by decide +kernel
theorem dX10_has_48 : decode cX10_has 48 = .ok (.iaload, 1) := by decide +kernel
theorem dX10_has_49 : decode cX10_has 49 = .ok (.ireturn, 1) := by decide +kernel
theorem dX10_within_0 : decode cX10_within 0 = .ok (.aload_n 0, 1) := by decide +kernel
theorem dX10_within_1 : decode cX10_within 1 = .ok (.iload_n 1, 1) := by decide +kernel
theorem dX10_within_2 : decode cX10_within 2 = .ok (.invokevirtual 130, 3) := by decide +kernel
theorem dX10_within_5 : decode cX10_within 5 = .ok (.ifCond .ne 14, 3) := by decide +kernel
theorem dX10_within_8 : decode cX10_within 8 = .ok (.iload_n 2, 1) := by decide +kernel
theorem dX10_within_9 : decode cX10_within 9 = .ok (.ifCond .lt 10, 3) := by decide +kernel
theorem dX10_within_12 : decode cX10_within 12 = .ok (.iload_n 2, 1) := by decide +kernel
theorem dX10_within_13 : decode cX10_within 13 = .ok (.sipush 999, 3) := by decide +kernel
theorem dX10_within_16 : decode cX10_within 16 = .ok (.if_icmp .le 5, 3) := by decide +kernel
theorem dX10_within_19 : decode cX10_within 19 = .ok (.iconst (-1), 1) := by decide +kernel
theorem dX10_within_20 : decode cX10_within 20 = .ok (.ireturn, 1) := by decide +kernel
theorem dX10_within_21 : decode cX10_within 21 = .ok (.iconst 1, 1) := by decide +kernel
theorem dX10_within_22 : decode cX10_within 22 = .ok (.aload_n 0, 1) := by decide +kernel
theorem dX10_within_23 : decode cX10_within 23 = .ok (.getfield 27, 3) := by decide +kernel
theorem dX10_within_26 : decode cX10_within 26 = .ok (.getfield 242, 3) := by decide +kernel
theorem dX10_within_29 : decode cX10_within 29 = .ok (.ishl, 1) := by decide +kernel
theorem dX10_within_30 : decode cX10_within 30 = .ok (.iconst 1, 1) := by decide +kernel
theorem dX10_within_31 : decode cX10_within 31 = .ok (.isub, 1) := by decide +kernel
theorem dX10_within_32 : decode cX10_within 32 = .ok (.istore_n 3, 1) := by decide +kernel
theorem dX10_within_33 : decode cX10_within 33 = .ok (.aload_n 0, 1) := by decide +kernel
theorem dX10_within_34 : decode cX10_within 34 = .ok (.getfield 79, 3) := by decide +kernel
theorem dX10_within_37 : decode cX10_within 37 = .ok (.aload_n 0, 1) := by decide +kernel
theorem dX10_within_38 : decode cX10_within 38 = .ok (.getfield 72, 3) := by decide +kernel
theorem dX10_within_41 : decode cX10_within 41 = .ok (.aload_n 0, 1) := by decide +kernel
theorem dX10_within_42 : decode cX10_within 42 = .ok (.getfield 60, 3) := by decide +kernel
theorem dX10_within_45 : decode cX10_within 45 = .ok (.iload_n 3, 1) := by decide +kernel
theorem dX10_within_46 : decode cX10_within 46 = .ok (.invokevirtual 265, 3) := by decide +kernel
theorem dX10_within_49 : decode cX10_within 49 = .ok (.aload_n 0, 1) := by decide +kernel
theorem dX10_within_50 : decode cX10_within 50 = .ok (.getfield 79, 3) := by decide +kernel
theorem dX10_within_53 : decode cX10_within 53 = .ok (.iload_n 1, 1) := by decide +kernel
theorem dX10_within_54 : decode cX10_within 54 = .ok (.iload_n 3, 1) := by decide +kernel
theorem dX10_within_55 : decode cX10_within 55 = .ok (.iload_n 2, 1) := by decide +kernel
theorem dX10_within_56 : decode cX10_within 56 = .ok (.invokevirtual 285, 3) := by decide +kernel
theorem dX10_within_59 : decode cX10_within 59 = .ok (.ireturn, 1) := by decide +kernel
theorem dX10_rich_0 : decode cX10_rich 0 = .ok (.iload_n 1, 1) := by decide +kernel
theorem dX10_rich_1 : decode cX10_rich 1 = .ok (.invokestatic 222, 3) := by decide +kernel
theorem dX10_rich_4 : decode cX10_rich 4 = .ok (.ifCond .ne 12, 3) := by decide +kernel
theorem dX10_rich_7 : decode cX10_rich 7 = .ok (.iload_n 2, 1) := by decide +kernel
theorem dX10_rich_8 : decode cX10_rich 8 = .ok (.ifCond .eq 10, 3) := by decide +kernel
theorem dX10_rich_11 : decode cX10_rich 11 = .ok (.iload_n 2, 1) := by decide +kernel
theorem dX10_rich_12 : decode cX10_rich 12 = .ok (.iconst 1, 1) := by decide +kernel
theorem dX10_rich_13 : decode cX10_rich 13 = .ok (.if_icmp .eq 5, 3) := by decide +kernel
theorem dX10_rich_16 : decode cX10_rich 16 = .ok (.iconst (-1), 1) := by decide +kernel
theorem dX10_rich_17 : decode cX10_rich 17 = .ok (.ireturn, 1) := by decide +kernel
theorem dX10_rich_18 : decode cX10_rich 18 = .ok (.aload_n 0, 1) := by decide +kernel
theorem dX10_rich_19 : decode cX10_rich 19 = .ok (.iload_n 1, 1) := by decide +kernel
theorem dX10_rich_20 : decode cX10_rich 20 = .ok (.aload_n 0, 1) := by decide +kernel
theorem dX10_rich_21 : decode cX10_rich 21 = .ok (.getfield 27, 3) := by decide +kernel
theorem dX10_rich_24 : decode cX10_rich 24 = .ok (.getfield 225, 3) := by decide +kernel
theorem dX10_rich_27 : decode cX10_rich 27 = .ok (.invokevirtual 275, 3) := by decide +kernel
theorem dX10_rich_30 : decode cX10_rich 30 = .ok (.aload_n 0, 1) := by decide +kernel
theorem dX10_rich_31 : decode cX10_rich 31 = .ok (.getfield 72, 3) := by decide +kernel
theorem dX10_rich_34 : decode cX10_rich 34 = .ok (.aload_n 0, 1) := by decide +kernel
theorem dX10_rich_35 : decode cX10_rich 35 = .ok (.getfield 64, 3) := by decide +kernel
theorem dX10_rich_38 : decode cX10_rich 38 = .ok (.invokevirtual 279, 3) := by decide +kernel
theorem dX10_rich_41 : decode cX10_rich 41 = .ok (.bipush (-2), 2) := by decide +kernel
theorem dX10_rich_43 : decode cX10_rich 43 = .ok (.istore_n 3, 1) := by decide +kernel
theorem dX10_rich_44 : decode cX10_rich 44 = .ok (.bipush (-2), 2) := by decide +kernel
theorem dX10_rich_46 : decode cX10_rich 46 = .ok (.istore 4, 2) := by decide +kernel
theorem dX10_rich_48 : decode cX10_rich 48 = .ok (.iconst 0, 1) := by decide +kernel
theorem dX10_rich_49 : decode cX10_rich 49 = .ok (.istore 5, 2) := by decide +kernel
theorem dX10_rich_51 : decode cX10_rich 51 = .ok (.iload 5, 2) := by decide +kernel
theorem dX10_rich_53 : decode cX10_rich 53 = .ok (.aload_n 0, 1) := by decide +kernel
theorem dX10_rich_54 : decode cX10_rich 54 = .ok (.getfield 27, 3) := by decide +kernel
theorem dX10_rich_57 : decode cX10_rich 57 = .ok (.getfield 289, 3) := by decide +kernel
theorem dX10_rich_60 : decode cX10_rich 60 = .ok (.if_icmp .ge 39, 3) := by decide +kernel
theorem dX10_rich_63 : decode cX10_rich 63 = .ok (.aload_n 0, 1) := by decide +kernel
theorem dX10_rich_64 : decode cX10_rich 64 = .ok (.getfield 72, 3) := by decide +kernel
theorem dX10_rich_67 : decode cX10_rich 67 = .ok (.getfield 282, 3) := by decide +kernel
theorem dX10_rich_70 : decode cX10_rich 70 = .ok (.iload 5, 2) := by decide +kernel
theorem dX10_rich_72 : decode cX10_rich 72 = .ok (.iaload, 1) := by decide +kernel
theorem dX10_rich_73 : decode cX10_rich 73 = .ok (.iload 4, 2) := by decide +kernel
theorem dX10_rich_75 : decode cX10_rich 75 = .ok (.if_icmp .le 18, 3) := by decide +kernel
theorem dX10_rich_78 : decode cX10_rich 78 = .ok (.aload_n 0, 1) := by decide +kernel
theorem dX10_rich_79 : decode cX10_rich 79 = .ok (.getfield 72, 3) := by decide +kernel
theorem dX10_rich_82 : decode cX10_rich 82 = .ok (.getfield 282, 3) := by decide +kernel
theorem dX10_rich_85 : decode cX10_rich 85 = .ok (.iload 5, 2) := by decide +kernel
theorem dX10_rich_87 : decode cX10_rich 87 = .ok (.iaload, 1) := by decide +kernel
theorem dX10_rich_88 : decode cX10_rich 88 = .ok (.istore 4, 2) := by decide +kernel
theorem dX10_rich_90 : decode cX10_rich 90 = .ok (.iload 5, 2) := by decide +kernel
theorem dX10_rich_92 : decode cX10_rich 92 = .ok (.istore_n 3, 1) := by decide +kernel
theorem dX10_rich_93 : decode cX10_rich 93 = .ok (.iinc 5 1, 3) := by decide +kernel
theorem dX10_rich_96 : decode cX10_rich 96 = .ok (.goto (-45), 3) := by decide +kernel
theorem dX10_rich_99 : decode cX10_rich 99 = .ok (.iload_n 2, 1) := by decide +kernel
theorem dX10_rich_100 : decode cX10_rich 100 = .ok (.ifCond .ne 7, 3) := by decide +kernel
theorem dX10_rich_103 : decode cX10_rich 103 = .ok (.iload_n 3, 1) := by decide +kernel
theorem dX10_rich_104 : decode cX10_rich 104 = .ok (.goto 5, 3) := by decide +kernel
theorem dX10_rich_107 : decode cX10_rich 107 = .ok (.iload 4, 2) := by decide +kernel
theorem dX10_rich_109 : decode cX10_rich 109 = .ok (.ireturn, 1) := by decide +kernel
theorem dX10_chain_0 : decode cX10_chain 0 = .ok (.aload_n 0, 1) := by decide +kernel
theorem dX10_chain_1 : decode cX10_chain 1 = .ok (.iload_n 1, 1) := by decide +kernel
theorem dX10_chain_2 : decode cX10_chain 2 = .ok (.invokevirtual 130, 3) := by decide +kernel
theorem dX10_chain_5 : decode cX10_chain 5 = .ok (.ifCond .ne 8, 3) := by decide +kernel
theorem dX10_chain_8 : decode cX10_chain 8 = .ok (.iload_n 2, 1) := by decide +kernel
theorem dX10_chain_9 : decode cX10_chain 9 = .ok (.iconst (-1), 1) := by decide +kernel
theorem dX10_chain_10 : decode cX10_chain 10 = .ok (.if_icmp .ge 5, 3) := by decide +kernel
theorem dX10_chain_13 : decode cX10_chain 13 = .ok (.iconst (-1), 1) := by decide +kernel
theorem dX10_chain_14 : decode cX10_chain 14 = .ok (.ireturn, 1) := by decide +kernel
theorem dX10_chain_15 : decode cX10_chain 15 = .ok (.aload_n 0, 1) := by decide +kernel
theorem dX10_chain_16 : decode cX10_chain 16 = .ok (.getfield 72, 3) := by decide +kernel
theorem dX10_chain_19 : decode cX10_chain 19 = .ok (.aload_n 0, 1) := by decide +kernel
theorem dX10_chain_20 : decode cX10_chain 20 = .ok (.getfield 60, 3) := by decide +kernel
theorem dX10_chain_23 : decode cX10_chain 23 = .ok (.iload_n 1, 1) := by decide +kernel
theorem dX10_chain_24 : decode cX10_chain 24 = .ok (.invokevirtual 147, 3) := by decide +kernel
theorem dX10_chain_27 : decode cX10_chain 27 = .ok (.istore_n 3, 1) := by decide +kernel
theorem dX10_chain_28 : decode cX10_chain 28 = .ok (.iload_n 2, 1) := by decide +kernel
theorem dX10_chain_29 : decode cX10_chain 29 = .ok (.iconst (-1), 1) := by decide +kernel
theorem dX10_chain_30 : decode cX10_chain 30 = .ok (.if_icmp .ne 10, 3) := by decide +kernel
theorem dX10_chain_33 : decode cX10_chain 33 = .ok (.iload_n 3, 1) := by decide +kernel
theorem dX10_chain_34 : decode cX10_chain 34 = .ok (.invokestatic 150, 3) := by decide +kernel
theorem dX10_chain_37 : decode cX10_chain 37 = .ok (.iconst 1, 1) := by decide +kernel
theorem dX10_chain_38 : decode cX10_chain 38 = .ok (.iadd, 1) := by decide +kernel
theorem dX10_chain_39 : decode cX10_chain 39 = .ok (.ireturn, 1) := by decide +kernel
theorem dX10_chain_40 : decode cX10_chain 40 = .ok (.iload_n 2, 1) := by decide +kernel
theorem dX10_chain_41 : decode cX10_chain 41 = .ok (.ifCond .ne 13, 3) := by decide +kernel
theorem dX10_chain_44 : decode cX10_chain 44 = .ok (.aload_n 0, 1) := by decide +kernel
theorem dX10_chain_45 : decode cX10_chain 45 = .ok (.getfield 27, 3) := by decide +kernel
theorem dX10_chain_48 : decode cX10_chain 48 = .ok (.getfield 140, 3) := by decide +kernel
theorem dX10_chain_51 : decode cX10_chain 51 = .ok (.iload_n 1, 1) := by decide +kernel
theorem dX10_chain_52 : decode cX10_chain 52 = .ok (.iaload, 1) := by decide +kernel
theorem dX10_chain_53 : decode cX10_chain 53 = .ok (.ireturn, 1) := by decide +kernel
theorem dX10_chain_54 : decode cX10_chain 54 = .ok (.iload_n 3, 1) := by decide +kernel
theorem dX10_chain_55 : decode cX10_chain 55 = .ok (.iload_n 2, 1) := by decide +kernel
theorem dX10_chain_56 : decode cX10_chain 56 = .ok (.iconst 1, 1) := by decide +kernel
theorem dX10_chain_57 : decode cX10_chain 57 = .ok (.isub, 1) := by decide +kernel
theorem dX10_chain_58 : decode cX10_chain 58 = .ok (.invokestatic 255, 3) := by decide +kernel
theorem dX10_chain_61 : decode cX10_chain 61 = .ok (.istore 4, 2) := by decide +kernel
theorem dX10_chain_63 : decode cX10_chain 63 = .ok (.aload_n 0, 1) := by decide +kernel
theorem dX10_chain_64 : decode cX10_chain 64 = .ok (.iload 4, 2) := by decide +kernel
theorem dX10_chain_66 : decode cX10_chain 66 = .ok (.invokevirtual 174, 3) := by decide +kernel
theorem dX10_chain_69 : decode cX10_chain 69 = .ok (.ifCond .eq 7, 3) := by decide +kernel
theorem dX10_chain_72 : decode cX10_chain 72 = .ok (.iconst (-1), 1) := by decide +kernel
theorem dX10_chain_73 : decode cX10_chain 73 = .ok (.goto 13, 3) := by decide +kernel
theorem dX10_chain_76 : decode cX10_chain 76 = .ok (.aload_n 0, 1) := by decide +kernel
theorem dX10_chain_77 : decode cX10_chain 77 = .ok (.getfield 53, 3) := by decide +kernel
theorem dX10_chain_80 : decode cX10_chain 80 = .ok (.getfield 183, 3) := by decide +kernel
theorem dX10_chain_83 : decode cX10_chain 83 = .ok (.iload 4, 2) := by decide +kernel
theorem dX10_chain_85 : decode cX10_chain 85 = .ok (.iaload, 1) := by decide +kernel
theorem dX10_chain_86 : decode cX10_chain 86 = .ok (.ireturn, 1) := by decide +kernel
theorem dX10_idle_0 : decode cX10_idle 0 = .ok (.aload_n 0, 1) := by decide +kernel
theorem dX10_idle_1 : decode cX10_idle 1 = .ok (.iload_n 1, 1) := by decide +kernel
theorem dX10_idle_2 : decode cX10_idle 2 = .ok (.invokevirtual 130, 3) := by decide +kernel
theorem dX10_idle_5 : decode cX10_idle 5 = .ok (.ifCond .eq 5, 3) := by decide +kernel
theorem dX10_idle_8 : decode cX10_idle 8 = .ok (.iconst (-1), 1) := by decide +kernel
theorem dX10_idle_9 : decode cX10_idle 9 = .ok (.ireturn, 1) := by decide +kernel
theorem dX10_idle_10 : decode cX10_idle 10 = .ok (.aload_n 0, 1) := by decide +kernel
theorem dX10_idle_11 : decode cX10_idle 11 = .ok (.getfield 72, 3) := by decide +kernel
theorem dX10_idle_14 : decode cX10_idle 14 = .ok (.aload_n 0, 1) := by decide +kernel
theorem dX10_idle_15 : decode cX10_idle 15 = .ok (.getfield 60, 3) := by decide +kernel
theorem dX10_idle_18 : decode cX10_idle 18 = .ok (.invokevirtual 292, 3) := by decide +kernel
theorem dX10_idle_21 : decode cX10_idle 21 = .ok (.aload_n 0, 1) := by decide +kernel
theorem dX10_idle_22 : decode cX10_idle 22 = .ok (.getfield 53, 3) := by decide +kernel
theorem dX10_idle_25 : decode cX10_idle 25 = .ok (.iload_n 1, 1) := by decide +kernel
theorem dX10_idle_26 : decode cX10_idle 26 = .ok (.aload_n 0, 1) := by decide +kernel
theorem dX10_idle_27 : decode cX10_idle 27 = .ok (.getfield 60, 3) := by decide +kernel
theorem dX10_idle_30 : decode cX10_idle 30 = .ok (.getfield 212, 3) := by decide +kernel
theorem dX10_idle_33 : decode cX10_idle 33 = .ok (.invokevirtual 296, 3) := by decide +kernel
theorem dX10_idle_36 : decode cX10_idle 36 = .ok (.iand, 1) := by decide +kernel
theorem dX10_idle_37 : decode cX10_idle 37 = .ok (.aload_n 0, 1) := by decide +kernel
theorem dX10_idle_38 : decode cX10_idle 38 = .ok (.getfield 72, 3) := by decide +kernel
theorem dX10_idle_41 : decode cX10_idle 41 = .ok (.aload_n 0, 1) := by decide +kernel
theorem dX10_idle_42 : decode cX10_idle 42 = .ok (.getfield 60, 3) := by decide +kernel
theorem dX10_idle_45 : decode cX10_idle 45 = .ok (.iload_n 1, 1) := by decide +kernel
theorem dX10_idle_46 : decode cX10_idle 46 = .ok (.invokevirtual 147, 3) := by decide +kernel
theorem dX10_idle_49 : decode cX10_idle 49 = .ok (.iconst (-1), 1) := by decide +kernel
theorem dX10_idle_50 : decode cX10_idle 50 = .ok (.ixor, 1) := by decide +kernel
theorem dX10_idle_51 : decode cX10_idle 51 = .ok (.iand, 1) := by decide +kernel
theorem dX10_idle_52 : decode cX10_idle 52 = .ok (.ireturn, 1) := by decide +kernel
theorem dX10_eldest_0 : decode cX10_eldest 0 = .ok (.iload_n 1, 1) := by decide +kernel
theorem dX10_eldest_1 : decode cX10_eldest 1 = .ok (.ifCond .eq 10, 3) := by decide +kernel
theorem dX10_eldest_4 : decode cX10_eldest 4 = .ok (.iload_n 1, 1) := by decide +kernel
theorem dX10_eldest_5 : decode cX10_eldest 5 = .ok (.iconst 1, 1) := by decide +kernel
theorem dX10_eldest_6 : decode cX10_eldest 6 = .ok (.if_icmp .eq 5, 3) := by decide +kernel
theorem dX10_eldest_9 : decode cX10_eldest 9 = .ok (.iconst (-1), 1) := by decide +kernel
theorem dX10_eldest_10 : decode cX10_eldest 10 = .ok (.ireturn, 1) := by decide +kernel
theorem dX10_eldest_11 : decode cX10_eldest 11 = .ok (.bipush (-2), 2) := by decide +kernel
theorem dX10_eldest_13 : decode cX10_eldest 13 = .ok (.istore_n 2, 1) := by decide +kernel
theorem dX10_eldest_14 : decode cX10_eldest 14 = .ok (.bipush (-2), 2) := by decide +kernel
theorem dX10_eldest_16 : decode cX10_eldest 16 = .ok (.istore_n 3, 1) := by decide +kernel
theorem dX10_eldest_17 : decode cX10_eldest 17 = .ok (.iconst 0, 1) := by decide +kernel
theorem dX10_eldest_18 : decode cX10_eldest 18 = .ok (.istore 4, 2) := by decide +kernel
theorem dX10_eldest_20 : decode cX10_eldest 20 = .ok (.iload 4, 2) := by decide +kernel
theorem dX10_eldest_22 : decode cX10_eldest 22 = .ok (.aload_n 0, 1) := by decide +kernel
theorem dX10_eldest_23 : decode cX10_eldest 23 = .ok (.getfield 27, 3) := by decide +kernel
theorem dX10_eldest_26 : decode cX10_eldest 26 = .ok (.getfield 209, 3) := by decide +kernel
theorem dX10_eldest_29 : decode cX10_eldest 29 = .ok (.if_icmp .ge 52, 3) := by decide +kernel
theorem dX10_eldest_32 : decode cX10_eldest 32 = .ok (.aload_n 0, 1) := by decide +kernel
theorem dX10_eldest_33 : decode cX10_eldest 33 = .ok (.getfield 60, 3) := by decide +kernel
theorem dX10_eldest_36 : decode cX10_eldest 36 = .ok (.getfield 165, 3) := by decide +kernel
theorem dX10_eldest_39 : decode cX10_eldest 39 = .ok (.iload 4, 2) := by decide +kernel
theorem dX10_eldest_41 : decode cX10_eldest 41 = .ok (.ishr, 1) := by decide +kernel
theorem dX10_eldest_42 : decode cX10_eldest 42 = .ok (.iconst 1, 1) := by decide +kernel
theorem dX10_eldest_43 : decode cX10_eldest 43 = .ok (.iand, 1) := by decide +kernel
theorem dX10_eldest_44 : decode cX10_eldest 44 = .ok (.ifCond .eq 31, 3) := by decide +kernel
theorem dX10_eldest_47 : decode cX10_eldest 47 = .ok (.aload_n 0, 1) := by decide +kernel
theorem dX10_eldest_48 : decode cX10_eldest 48 = .ok (.getfield 60, 3) := by decide +kernel
theorem dX10_eldest_51 : decode cX10_eldest 51 = .ok (.getfield 159, 3) := by decide +kernel
theorem dX10_eldest_54 : decode cX10_eldest 54 = .ok (.iload 4, 2) := by decide +kernel
theorem dX10_eldest_56 : decode cX10_eldest 56 = .ok (.iaload, 1) := by decide +kernel
theorem dX10_eldest_57 : decode cX10_eldest 57 = .ok (.iload_n 3, 1) := by decide +kernel
theorem dX10_eldest_58 : decode cX10_eldest 58 = .ok (.if_icmp .le 17, 3) := by decide +kernel
theorem dX10_eldest_61 : decode cX10_eldest 61 = .ok (.aload_n 0, 1) := by decide +kernel
theorem dX10_eldest_62 : decode cX10_eldest 62 = .ok (.getfield 60, 3) := by decide +kernel
theorem dX10_eldest_65 : decode cX10_eldest 65 = .ok (.getfield 159, 3) := by decide +kernel
theorem dX10_eldest_68 : decode cX10_eldest 68 = .ok (.iload 4, 2) := by decide +kernel
theorem dX10_eldest_70 : decode cX10_eldest 70 = .ok (.iaload, 1) := by decide +kernel
theorem dX10_eldest_71 : decode cX10_eldest 71 = .ok (.istore_n 3, 1) := by decide +kernel
theorem dX10_eldest_72 : decode cX10_eldest 72 = .ok (.iload 4, 2) := by decide +kernel
theorem dX10_eldest_74 : decode cX10_eldest 74 = .ok (.istore_n 2, 1) := by decide +kernel
theorem dX10_eldest_75 : decode cX10_eldest 75 = .ok (.iinc 4 1, 3) := by decide +kernel
theorem dX10_eldest_78 : decode cX10_eldest 78 = .ok (.goto (-58), 3) := by decide +kernel
theorem dX10_eldest_81 : decode cX10_eldest 81 = .ok (.iload_n 1, 1) := by decide +kernel
theorem dX10_eldest_82 : decode cX10_eldest 82 = .ok (.ifCond .ne 7, 3) := by decide +kernel
theorem dX10_eldest_85 : decode cX10_eldest 85 = .ok (.iload_n 2, 1) := by decide +kernel
theorem dX10_eldest_86 : decode cX10_eldest 86 = .ok (.goto 4, 3) := by decide +kernel
theorem dX10_eldest_89 : decode cX10_eldest 89 = .ok (.iload_n 3, 1) := by decide +kernel
theorem dX10_eldest_90 : decode cX10_eldest 90 = .ok (.ireturn, 1) := by decide +kernel
theorem dX10_lapse_0 : decode cX10_lapse 0 = .ok (.iload_n 1, 1) := by decide +kernel
theorem dX10_lapse_1 : decode cX10_lapse 1 = .ok (.invokestatic 222, 3) := by decide +kernel
theorem dX10_lapse_4 : decode cX10_lapse 4 = .ok (.ifCond .eq 5, 3) := by decide +kernel
theorem dX10_lapse_7 : decode cX10_lapse 7 = .ok (.iconst (-1), 1) := by decide +kernel
theorem dX10_lapse_8 : decode cX10_lapse 8 = .ok (.ireturn, 1) := by decide +kernel
theorem dX10_lapse_9 : decode cX10_lapse 9 = .ok (.aload_n 0, 1) := by decide +kernel
theorem dX10_lapse_10 : decode cX10_lapse 10 = .ok (.iload_n 1, 1) := by decide +kernel
theorem dX10_lapse_11 : decode cX10_lapse 11 = .ok (.aload_n 0, 1) := by decide +kernel
theorem dX10_lapse_12 : decode cX10_lapse 12 = .ok (.getfield 27, 3) := by decide +kernel
theorem dX10_lapse_15 : decode cX10_lapse 15 = .ok (.getfield 225, 3) := by decide +kernel
theorem dX10_lapse_18 : decode cX10_lapse 18 = .ok (.invokevirtual 275, 3) := by decide +kernel
theorem dX10_lapse_21 : decode cX10_lapse 21 = .ok (.aload_n 0, 1) := by decide +kernel
theorem dX10_lapse_22 : decode cX10_lapse 22 = .ok (.getfield 72, 3) := by decide +kernel
theorem dX10_lapse_25 : decode cX10_lapse 25 = .ok (.aload_n 0, 1) := by decide +kernel
theorem dX10_lapse_26 : decode cX10_lapse 26 = .ok (.getfield 60, 3) := by decide +kernel
theorem dX10_lapse_29 : decode cX10_lapse 29 = .ok (.invokevirtual 292, 3) := by decide +kernel
theorem dX10_lapse_32 : decode cX10_lapse 32 = .ok (.aload_n 0, 1) := by decide +kernel
theorem dX10_lapse_33 : decode cX10_lapse 33 = .ok (.getfield 72, 3) := by decide +kernel
theorem dX10_lapse_36 : decode cX10_lapse 36 = .ok (.aload_n 0, 1) := by decide +kernel
theorem dX10_lapse_37 : decode cX10_lapse 37 = .ok (.getfield 64, 3) := by decide +kernel
theorem dX10_lapse_40 : decode cX10_lapse 40 = .ok (.invokevirtual 292, 3) := by decide +kernel
theorem dX10_lapse_43 : decode cX10_lapse 43 = .ok (.iconst (-1), 1) := by decide +kernel
theorem dX10_lapse_44 : decode cX10_lapse 44 = .ok (.ixor, 1) := by decide +kernel
theorem dX10_lapse_45 : decode cX10_lapse 45 = .ok (.iand, 1) := by decide +kernel
theorem dX10_lapse_46 : decode cX10_lapse 46 = .ok (.invokestatic 150, 3) := by decide +kernel
theorem dX10_lapse_49 : decode cX10_lapse 49 = .ok (.ireturn, 1) := by decide +kernel
theorem dX10_passes_0 : decode cX10_passes 0 = .ok (.aload_n 0, 1) := by decide +kernel
theorem dX10_passes_1 : decode cX10_passes 1 = .ok (.iload_n 1, 1) := by decide +kernel
theorem dX10_passes_2 : decode cX10_passes 2 = .ok (.invokevirtual 130, 3) := by decide +kernel
theorem dX10_passes_5 : decode cX10_passes 5 = .ok (.ifCond .eq 5, 3) := by decide +kernel
theorem dX10_passes_8 : decode cX10_passes 8 = .ok (.iconst (-1), 1) := by decide +kernel
theorem dX10_passes_9 : decode cX10_passes 9 = .ok (.ireturn, 1) := by decide +kernel
theorem dX10_passes_10 : decode cX10_passes 10 = .ok (.aload_n 0, 1) := by decide +kernel
theorem dX10_passes_11 : decode cX10_passes 11 = .ok (.getfield 72, 3) := by decide +kernel
theorem dX10_passes_14 : decode cX10_passes 14 = .ok (.aload_n 0, 1) := by decide +kernel
theorem dX10_passes_15 : decode cX10_passes 15 = .ok (.getfield 60, 3) := by decide +kernel
theorem dX10_passes_18 : decode cX10_passes 18 = .ok (.iload_n 1, 1) := by decide +kernel
theorem dX10_passes_19 : decode cX10_passes 19 = .ok (.invokevirtual 143, 3) := by decide +kernel
theorem dX10_passes_22 : decode cX10_passes 22 = .ok (.istore_n 2, 1) := by decide +kernel
theorem dX10_passes_23 : decode cX10_passes 23 = .ok (.aload_n 0, 1) := by decide +kernel
theorem dX10_passes_24 : decode cX10_passes 24 = .ok (.getfield 64, 3) := by decide +kernel
theorem dX10_passes_27 : decode cX10_passes 27 = .ok (.aload_n 0, 1) := by decide +kernel
theorem dX10_passes_28 : decode cX10_passes 28 = .ok (.getfield 60, 3) := by decide +kernel
theorem dX10_passes_31 : decode cX10_passes 31 = .ok (.invokevirtual 236, 3) := by decide +kernel
theorem dX10_passes_34 : decode cX10_passes 34 = .ok (.iconst 1, 1) := by decide +kernel
theorem dX10_passes_35 : decode cX10_passes 35 = .ok (.istore_n 3, 1) := by decide +kernel
theorem dX10_passes_36 : decode cX10_passes 36 = .ok (.iload_n 3, 1) := by decide +kernel
theorem dX10_passes_37 : decode cX10_passes 37 = .ok (.sipush 200, 3) := by decide +kernel
theorem dX10_passes_40 : decode cX10_passes 40 = .ok (.if_icmp .gt 45, 3) := by decide +kernel
theorem dX10_passes_43 : decode cX10_passes 43 = .ok (.aload_n 0, 1) := by decide +kernel
theorem dX10_passes_44 : decode cX10_passes 44 = .ok (.getfield 72, 3) := by decide +kernel
theorem dX10_passes_47 : decode cX10_passes 47 = .ok (.aload_n 0, 1) := by decide +kernel
theorem dX10_passes_48 : decode cX10_passes 48 = .ok (.getfield 64, 3) := by decide +kernel
theorem dX10_passes_51 : decode cX10_passes 51 = .ok (.aload_n 0, 1) := by decide +kernel
theorem dX10_passes_52 : decode cX10_passes 52 = .ok (.getfield 27, 3) := by decide +kernel
theorem dX10_passes_55 : decode cX10_passes 55 = .ok (.getfield 225, 3) := by decide +kernel
theorem dX10_passes_58 : decode cX10_passes 58 = .ok (.invokevirtual 299, 3) := by decide +kernel
theorem dX10_passes_61 : decode cX10_passes 61 = .ok (.aload_n 0, 1) := by decide +kernel
theorem dX10_passes_62 : decode cX10_passes 62 = .ok (.getfield 72, 3) := by decide +kernel
theorem dX10_passes_65 : decode cX10_passes 65 = .ok (.aload_n 0, 1) := by decide +kernel
theorem dX10_passes_66 : decode cX10_passes 66 = .ok (.getfield 64, 3) := by decide +kernel
theorem dX10_passes_69 : decode cX10_passes 69 = .ok (.iload_n 1, 1) := by decide +kernel
theorem dX10_passes_70 : decode cX10_passes 70 = .ok (.invokevirtual 143, 3) := by decide +kernel
theorem dX10_passes_73 : decode cX10_passes 73 = .ok (.iload_n 2, 1) := by decide +kernel
theorem dX10_passes_74 : decode cX10_passes 74 = .ok (.if_icmp .eq 5, 3) := by decide +kernel
theorem dX10_passes_77 : decode cX10_passes 77 = .ok (.iload_n 3, 1) := by decide +kernel
theorem dX10_passes_78 : decode cX10_passes 78 = .ok (.ireturn, 1) := by decide +kernel
theorem dX10_passes_79 : decode cX10_passes 79 = .ok (.iinc 3 1, 3) := by decide +kernel
theorem dX10_passes_82 : decode cX10_passes 82 = .ok (.goto (-46), 3) := by decide +kernel
theorem dX10_passes_85 : decode cX10_passes 85 = .ok (.bipush (-2), 2) := by decide +kernel
theorem dX10_passes_87 : decode cX10_passes 87 = .ok (.ireturn, 1) := by decide +kernel
theorem dX10_weakest_0 : decode cX10_weakest 0 = .ok (.iload_n 1, 1) := by decide +kernel
theorem dX10_weakest_1 : decode cX10_weakest 1 = .ok (.ifCond .eq 10, 3) := by decide +kernel
theorem dX10_weakest_4 : decode cX10_weakest 4 = .ok (.iload_n 1, 1) := by decide +kernel
theorem dX10_weakest_5 : decode cX10_weakest 5 = .ok (.iconst 1, 1) := by decide +kernel
theorem dX10_weakest_6 : decode cX10_weakest 6 = .ok (.if_icmp .eq 5, 3) := by decide +kernel
theorem dX10_weakest_9 : decode cX10_weakest 9 = .ok (.iconst (-1), 1) := by decide +kernel
theorem dX10_weakest_10 : decode cX10_weakest 10 = .ok (.ireturn, 1) := by decide +kernel
theorem dX10_weakest_11 : decode cX10_weakest 11 = .ok (.aload_n 0, 1) := by decide +kernel
theorem dX10_weakest_12 : decode cX10_weakest 12 = .ok (.getfield 72, 3) := by decide +kernel
theorem dX10_weakest_15 : decode cX10_weakest 15 = .ok (.aload_n 0, 1) := by decide +kernel
theorem dX10_weakest_16 : decode cX10_weakest 16 = .ok (.getfield 60, 3) := by decide +kernel
theorem dX10_weakest_19 : decode cX10_weakest 19 = .ok (.invokevirtual 303, 3) := by decide +kernel
theorem dX10_weakest_22 : decode cX10_weakest 22 = .ok (.istore_n 2, 1) := by decide +kernel
theorem dX10_weakest_23 : decode cX10_weakest 23 = .ok (.bipush (-2), 2) := by decide +kernel
theorem dX10_weakest_25 : decode cX10_weakest 25 = .ok (.istore_n 3, 1) := by decide +kernel
theorem dX10_weakest_26 : decode cX10_weakest 26 = .ok (.bipush (-2), 2) := by decide +kernel
theorem dX10_weakest_28 : decode cX10_weakest 28 = .ok (.istore 4, 2) := by decide +kernel
theorem dX10_weakest_30 : decode cX10_weakest 30 = .ok (.iconst 0, 1) := by decide +kernel
theorem dX10_weakest_31 : decode cX10_weakest 31 = .ok (.istore 5, 2) := by decide +kernel
theorem dX10_weakest_33 : decode cX10_weakest 33 = .ok (.iload 5, 2) := by decide +kernel
theorem dX10_weakest_35 : decode cX10_weakest 35 = .ok (.aload_n 0, 1) := by decide +kernel
theorem dX10_weakest_36 : decode cX10_weakest 36 = .ok (.getfield 60, 3) := by decide +kernel
theorem dX10_weakest_39 : decode cX10_weakest 39 = .ok (.getfield 212, 3) := by decide +kernel
theorem dX10_weakest_42 : decode cX10_weakest 42 = .ok (.if_icmp .ge 53, 3) := by decide +kernel
theorem dX10_weakest_45 : decode cX10_weakest 45 = .ok (.iload_n 2, 1) := by decide +kernel
theorem dX10_weakest_46 : decode cX10_weakest 46 = .ok (.iload 5, 2) := by decide +kernel
theorem dX10_weakest_48 : decode cX10_weakest 48 = .ok (.ishr, 1) := by decide +kernel
theorem dX10_weakest_49 : decode cX10_weakest 49 = .ok (.iconst 1, 1) := by decide +kernel
theorem dX10_weakest_50 : decode cX10_weakest 50 = .ok (.iand, 1) := by decide +kernel
theorem dX10_weakest_51 : decode cX10_weakest 51 = .ok (.ifCond .eq 38, 3) := by decide +kernel
theorem dX10_weakest_54 : decode cX10_weakest 54 = .ok (.aload_n 0, 1) := by decide +kernel
theorem dX10_weakest_55 : decode cX10_weakest 55 = .ok (.getfield 72, 3) := by decide +kernel
theorem dX10_weakest_58 : decode cX10_weakest 58 = .ok (.aload_n 0, 1) := by decide +kernel
theorem dX10_weakest_59 : decode cX10_weakest 59 = .ok (.getfield 60, 3) := by decide +kernel
theorem dX10_weakest_62 : decode cX10_weakest 62 = .ok (.iload 5, 2) := by decide +kernel
theorem dX10_weakest_64 : decode cX10_weakest 64 = .ok (.invokevirtual 306, 3) := by decide +kernel
theorem dX10_weakest_67 : decode cX10_weakest 67 = .ok (.istore 6, 2) := by decide +kernel
theorem dX10_weakest_69 : decode cX10_weakest 69 = .ok (.iload_n 3, 1) := by decide +kernel
theorem dX10_weakest_70 : decode cX10_weakest 70 = .ok (.bipush (-2), 2) := by decide +kernel
theorem dX10_weakest_72 : decode cX10_weakest 72 = .ok (.if_icmp .eq 10, 3) := by decide +kernel
theorem dX10_weakest_75 : decode cX10_weakest 75 = .ok (.iload 6, 2) := by decide +kernel
theorem dX10_weakest_77 : decode cX10_weakest 77 = .ok (.iload 4, 2) := by decide +kernel
theorem dX10_weakest_79 : decode cX10_weakest 79 = .ok (.if_icmp .ge 10, 3) := by decide +kernel
theorem dX10_weakest_82 : decode cX10_weakest 82 = .ok (.iload 6, 2) := by decide +kernel
theorem dX10_weakest_84 : decode cX10_weakest 84 = .ok (.istore 4, 2) := by decide +kernel
theorem dX10_weakest_86 : decode cX10_weakest 86 = .ok (.iload 5, 2) := by decide +kernel
theorem dX10_weakest_88 : decode cX10_weakest 88 = .ok (.istore_n 3, 1) := by decide +kernel
theorem dX10_weakest_89 : decode cX10_weakest 89 = .ok (.iinc 5 1, 3) := by decide +kernel
theorem dX10_weakest_92 : decode cX10_weakest 92 = .ok (.goto (-59), 3) := by decide +kernel
theorem dX10_weakest_95 : decode cX10_weakest 95 = .ok (.iload_n 1, 1) := by decide +kernel
theorem dX10_weakest_96 : decode cX10_weakest 96 = .ok (.ifCond .ne 7, 3) := by decide +kernel
theorem dX10_weakest_99 : decode cX10_weakest 99 = .ok (.iload_n 3, 1) := by decide +kernel
theorem dX10_weakest_100 : decode cX10_weakest 100 = .ok (.goto 5, 3) := by decide +kernel
theorem dX10_weakest_103 : decode cX10_weakest 103 = .ok (.iload 4, 2) := by decide +kernel
theorem dX10_weakest_105 : decode cX10_weakest 105 = .ok (.ireturn, 1) := by decide +kernel
theorem dX10_ownerIn_0 : decode cX10_ownerIn 0 = .ok (.aload_n 0, 1) := by decide +kernel
theorem dX10_ownerIn_1 : decode cX10_ownerIn 1 = .ok (.iload_n 1, 1) := by decide +kernel
theorem dX10_ownerIn_2 : decode cX10_ownerIn 2 = .ok (.invokevirtual 130, 3) := by decide +kernel
theorem dX10_ownerIn_5 : decode cX10_ownerIn 5 = .ok (.ifCond .ne 10, 3) := by decide +kernel
theorem dX10_ownerIn_8 : decode cX10_ownerIn 8 = .ok (.iload_n 2, 1) := by decide +kernel
theorem dX10_ownerIn_9 : decode cX10_ownerIn 9 = .ok (.invokestatic 222, 3) := by decide +kernel
theorem dX10_ownerIn_12 : decode cX10_ownerIn 12 = .ok (.ifCond .eq 5, 3) := by decide +kernel
theorem dX10_ownerIn_15 : decode cX10_ownerIn 15 = .ok (.iconst (-1), 1) := by decide +kernel
theorem dX10_ownerIn_16 : decode cX10_ownerIn 16 = .ok (.ireturn, 1) := by decide +kernel
theorem dX10_ownerIn_17 : decode cX10_ownerIn 17 = .ok (.aload_n 0, 1) := by decide +kernel
theorem dX10_ownerIn_18 : decode cX10_ownerIn 18 = .ok (.iload_n 2, 1) := by decide +kernel
theorem dX10_ownerIn_19 : decode cX10_ownerIn 19 = .ok (.aload_n 0, 1) := by decide +kernel
theorem dX10_ownerIn_20 : decode cX10_ownerIn 20 = .ok (.getfield 27, 3) := by decide +kernel
theorem dX10_ownerIn_23 : decode cX10_ownerIn 23 = .ok (.getfield 225, 3) := by decide +kernel
theorem dX10_ownerIn_26 : decode cX10_ownerIn 26 = .ok (.invokevirtual 275, 3) := by decide +kernel
theorem dX10_ownerIn_29 : decode cX10_ownerIn 29 = .ok (.aload_n 0, 1) := by decide +kernel
theorem dX10_ownerIn_30 : decode cX10_ownerIn 30 = .ok (.getfield 72, 3) := by decide +kernel
theorem dX10_ownerIn_33 : decode cX10_ownerIn 33 = .ok (.aload_n 0, 1) := by decide +kernel
theorem dX10_ownerIn_34 : decode cX10_ownerIn 34 = .ok (.getfield 64, 3) := by decide +kernel
theorem dX10_ownerIn_37 : decode cX10_ownerIn 37 = .ok (.iload_n 1, 1) := by decide +kernel
theorem dX10_ownerIn_38 : decode cX10_ownerIn 38 = .ok (.invokevirtual 143, 3) := by decide +kernel
theorem dX10_ownerIn_41 : decode cX10_ownerIn 41 = .ok (.ireturn, 1) := by decide +kernel
theorem dX10_then_0 : decode cX10_then 0 = .ok (.aload_n 0, 1) := by decide +kernel
theorem dX10_then_1 : decode cX10_then 1 = .ok (.iload_n 1, 1) := by decide +kernel
theorem dX10_then_2 : decode cX10_then 2 = .ok (.invokevirtual 156, 3) := by decide +kernel
theorem dX10_then_5 : decode cX10_then 5 = .ok (.ifCond .ne 19, 3) := by decide +kernel
theorem dX10_then_8 : decode cX10_then 8 = .ok (.iload_n 2, 1) := by decide +kernel
theorem dX10_then_9 : decode cX10_then 9 = .ok (.invokestatic 222, 3) := by decide +kernel
theorem dX10_then_12 : decode cX10_then 12 = .ok (.ifCond .ne 12, 3) := by decide +kernel
theorem dX10_then_15 : decode cX10_then 15 = .ok (.iload_n 3, 1) := by decide +kernel
theorem dX10_then_16 : decode cX10_then 16 = .ok (.ifCond .eq 10, 3) := by decide +kernel
theorem dX10_then_19 : decode cX10_then 19 = .ok (.iload_n 3, 1) := by decide +kernel
theorem dX10_then_20 : decode cX10_then 20 = .ok (.iconst 1, 1) := by decide +kernel
theorem dX10_then_21 : decode cX10_then 21 = .ok (.if_icmp .eq 5, 3) := by decide +kernel
theorem dX10_then_24 : decode cX10_then 24 = .ok (.iconst (-1), 1) := by decide +kernel
theorem dX10_then_25 : decode cX10_then 25 = .ok (.ireturn, 1) := by decide +kernel
theorem dX10_then_26 : decode cX10_then 26 = .ok (.aload_n 0, 1) := by decide +kernel
theorem dX10_then_27 : decode cX10_then 27 = .ok (.iload_n 2, 1) := by decide +kernel
theorem dX10_then_28 : decode cX10_then 28 = .ok (.aload_n 0, 1) := by decide +kernel
theorem dX10_then_29 : decode cX10_then 29 = .ok (.getfield 27, 3) := by decide +kernel
theorem dX10_then_32 : decode cX10_then 32 = .ok (.getfield 225, 3) := by decide +kernel
theorem dX10_then_35 : decode cX10_then 35 = .ok (.invokevirtual 275, 3) := by decide +kernel
theorem dX10_then_38 : decode cX10_then 38 = .ok (.iload_n 3, 1) := by decide +kernel
theorem dX10_then_39 : decode cX10_then 39 = .ok (.ifCond .ne 15, 3) := by decide +kernel
theorem dX10_then_42 : decode cX10_then 42 = .ok (.aload_n 0, 1) := by decide +kernel
theorem dX10_then_43 : decode cX10_then 43 = .ok (.getfield 64, 3) := by decide +kernel
theorem dX10_then_46 : decode cX10_then 46 = .ok (.getfield 159, 3) := by decide +kernel
theorem dX10_then_49 : decode cX10_then 49 = .ok (.iload_n 1, 1) := by decide +kernel
theorem dX10_then_50 : decode cX10_then 50 = .ok (.iaload, 1) := by decide +kernel
theorem dX10_then_51 : decode cX10_then 51 = .ok (.goto 14, 3) := by decide +kernel
theorem dX10_then_54 : decode cX10_then 54 = .ok (.aload_n 0, 1) := by decide +kernel
theorem dX10_then_55 : decode cX10_then 55 = .ok (.getfield 64, 3) := by decide +kernel
theorem dX10_then_58 : decode cX10_then 58 = .ok (.getfield 165, 3) := by decide +kernel
theorem dX10_then_61 : decode cX10_then 61 = .ok (.iload_n 1, 1) := by decide +kernel
theorem dX10_then_62 : decode cX10_then 62 = .ok (.ishr, 1) := by decide +kernel
theorem dX10_then_63 : decode cX10_then 63 = .ok (.iconst 1, 1) := by decide +kernel
theorem dX10_then_64 : decode cX10_then 64 = .ok (.iand, 1) := by decide +kernel
theorem dX10_then_65 : decode cX10_then 65 = .ok (.ireturn, 1) := by decide +kernel
theorem dX10_swearIn_0 : decode cX10_swearIn 0 = .ok (.aload_n 0, 1) := by decide +kernel
theorem dX10_swearIn_1 : decode cX10_swearIn 1 = .ok (.iload_n 1, 1) := by decide +kernel
theorem dX10_swearIn_2 : decode cX10_swearIn 2 = .ok (.invokevirtual 174, 3) := by decide +kernel
theorem dX10_swearIn_5 : decode cX10_swearIn 5 = .ok (.ifCond .ne 10, 3) := by decide +kernel
theorem dX10_swearIn_8 : decode cX10_swearIn 8 = .ok (.iload_n 2, 1) := by decide +kernel
theorem dX10_swearIn_9 : decode cX10_swearIn 9 = .ok (.invokestatic 222, 3) := by decide +kernel
theorem dX10_swearIn_12 : decode cX10_swearIn 12 = .ok (.ifCond .eq 5, 3) := by decide +kernel
theorem dX10_swearIn_15 : decode cX10_swearIn 15 = .ok (.iconst (-1), 1) := by decide +kernel
theorem dX10_swearIn_16 : decode cX10_swearIn 16 = .ok (.ireturn, 1) := by decide +kernel
theorem dX10_swearIn_17 : decode cX10_swearIn 17 = .ok (.aload_n 0, 1) := by decide +kernel
theorem dX10_swearIn_18 : decode cX10_swearIn 18 = .ok (.iload_n 2, 1) := by decide +kernel
theorem dX10_swearIn_19 : decode cX10_swearIn 19 = .ok (.aload_n 0, 1) := by decide +kernel
theorem dX10_swearIn_20 : decode cX10_swearIn 20 = .ok (.getfield 27, 3) := by decide +kernel
theorem dX10_swearIn_23 : decode cX10_swearIn 23 = .ok (.getfield 225, 3) := by decide +kernel
theorem dX10_swearIn_26 : decode cX10_swearIn 26 = .ok (.invokevirtual 275, 3) := by decide +kernel
theorem dX10_swearIn_29 : decode cX10_swearIn 29 = .ok (.aload_n 0, 1) := by decide +kernel
theorem dX10_swearIn_30 : decode cX10_swearIn 30 = .ok (.getfield 72, 3) := by decide +kernel
theorem dX10_swearIn_33 : decode cX10_swearIn 33 = .ok (.aload_n 0, 1) := by decide +kernel
theorem dX10_swearIn_34 : decode cX10_swearIn 34 = .ok (.getfield 64, 3) := by decide +kernel
theorem dX10_swearIn_37 : decode cX10_swearIn 37 = .ok (.iload_n 1, 1) := by decide +kernel
theorem dX10_swearIn_38 : decode cX10_swearIn 38 = .ok (.invokevirtual 306, 3) := by decide +kernel
theorem dX10_swearIn_41 : decode cX10_swearIn 41 = .ok (.ireturn, 1) := by decide +kernel
theorem dX10_year_0 : decode cX10_year 0 = .ok (.aload_n 0, 1) := by decide +kernel
theorem dX10_year_1 : decode cX10_year 1 = .ok (.iload_n 1, 1) := by decide +kernel
theorem dX10_year_2 : decode cX10_year 2 = .ok (.invokevirtual 130, 3) := by decide +kernel
theorem dX10_year_5 : decode cX10_year 5 = .ok (.ifCond .ne 31, 3) := by decide +kernel
theorem dX10_year_8 : decode cX10_year 8 = .ok (.aload_n 0, 1) := by decide +kernel
theorem dX10_year_9 : decode cX10_year 9 = .ok (.iload_n 2, 1) := by decide +kernel
theorem dX10_year_10 : decode cX10_year 10 = .ok (.invokevirtual 206, 3) := by decide +kernel
theorem dX10_year_13 : decode cX10_year 13 = .ok (.ifCond .ne 23, 3) := by decide +kernel
theorem dX10_year_16 : decode cX10_year 16 = .ok (.iload_n 3, 1) := by decide +kernel
theorem dX10_year_17 : decode cX10_year 17 = .ok (.invokestatic 222, 3) := by decide +kernel
theorem dX10_year_20 : decode cX10_year 20 = .ok (.ifCond .ne 16, 3) := by decide +kernel
theorem dX10_year_23 : decode cX10_year 23 = .ok (.iload 4, 2) := by decide +kernel
theorem dX10_year_25 : decode cX10_year 25 = .ok (.iconst 1, 1) := by decide +kernel
theorem dX10_year_26 : decode cX10_year 26 = .ok (.if_icmp .lt 10, 3) := by decide +kernel
theorem dX10_year_29 : decode cX10_year 29 = .ok (.iload 4, 2) := by decide +kernel
theorem dX10_year_31 : decode cX10_year 31 = .ok (.bipush 20, 2) := by decide +kernel
theorem dX10_year_33 : decode cX10_year 33 = .ok (.if_icmp .le 5, 3) := by decide +kernel
theorem dX10_year_36 : decode cX10_year 36 = .ok (.iconst (-1), 1) := by decide +kernel
theorem dX10_year_37 : decode cX10_year 37 = .ok (.ireturn, 1) := by decide +kernel
theorem dX10_year_38 : decode cX10_year 38 = .ok (.iconst 0, 1) := by decide +kernel
theorem dX10_year_39 : decode cX10_year 39 = .ok (.istore 5, 2) := by decide +kernel
theorem dX10_year_41 : decode cX10_year 41 = .ok (.iconst 0, 1) := by decide +kernel
theorem dX10_year_42 : decode cX10_year 42 = .ok (.istore 6, 2) := by decide +kernel
theorem dX10_year_44 : decode cX10_year 44 = .ok (.iload 6, 2) := by decide +kernel
theorem dX10_year_46 : decode cX10_year 46 = .ok (.iload 4, 2) := by decide +kernel
theorem dX10_year_48 : decode cX10_year 48 = .ok (.if_icmp .ge 43, 3) := by decide +kernel
theorem dX10_year_51 : decode cX10_year 51 = .ok (.aload_n 0, 1) := by decide +kernel
theorem dX10_year_52 : decode cX10_year 52 = .ok (.iload_n 3, 1) := by decide +kernel
theorem dX10_year_53 : decode cX10_year 53 = .ok (.aload_n 0, 1) := by decide +kernel
theorem dX10_year_54 : decode cX10_year 54 = .ok (.getfield 27, 3) := by decide +kernel
theorem dX10_year_57 : decode cX10_year 57 = .ok (.getfield 225, 3) := by decide +kernel
theorem dX10_year_60 : decode cX10_year 60 = .ok (.iload 6, 2) := by decide +kernel
theorem dX10_year_62 : decode cX10_year 62 = .ok (.iadd, 1) := by decide +kernel
theorem dX10_year_63 : decode cX10_year 63 = .ok (.invokevirtual 275, 3) := by decide +kernel
theorem dX10_year_66 : decode cX10_year 66 = .ok (.aload_n 0, 1) := by decide +kernel
theorem dX10_year_67 : decode cX10_year 67 = .ok (.getfield 72, 3) := by decide +kernel
theorem dX10_year_70 : decode cX10_year 70 = .ok (.aload_n 0, 1) := by decide +kernel
theorem dX10_year_71 : decode cX10_year 71 = .ok (.getfield 64, 3) := by decide +kernel
theorem dX10_year_74 : decode cX10_year 74 = .ok (.iload_n 1, 1) := by decide +kernel
theorem dX10_year_75 : decode cX10_year 75 = .ok (.invokevirtual 143, 3) := by decide +kernel
theorem dX10_year_78 : decode cX10_year 78 = .ok (.iload_n 2, 1) := by decide +kernel
theorem dX10_year_79 : decode cX10_year 79 = .ok (.if_icmp .ne 6, 3) := by decide +kernel
theorem dX10_year_82 : decode cX10_year 82 = .ok (.iinc 5 1, 3) := by decide +kernel
theorem dX10_year_85 : decode cX10_year 85 = .ok (.iinc 6 1, 3) := by decide +kernel
theorem dX10_year_88 : decode cX10_year 88 = .ok (.goto (-44), 3) := by decide +kernel
theorem dX10_year_91 : decode cX10_year 91 = .ok (.iload 5, 2) := by decide +kernel
theorem dX10_year_93 : decode cX10_year 93 = .ok (.ireturn, 1) := by decide +kernel
theorem dX10_tell_0 : decode cX10_tell 0 = .ok (.aload_n 0, 1) := by decide +kernel
theorem dX10_tell_1 : decode cX10_tell 1 = .ok (.iload_n 1, 1) := by decide +kernel
theorem dX10_tell_2 : decode cX10_tell 2 = .ok (.invokevirtual 156, 3) := by decide +kernel
theorem dX10_tell_5 : decode cX10_tell 5 = .ok (.ifCond .ne 12, 3) := by decide +kernel
theorem dX10_tell_8 : decode cX10_tell 8 = .ok (.aload_n 0, 1) := by decide +kernel
theorem dX10_tell_9 : decode cX10_tell 9 = .ok (.getfield 97, 3) := by decide +kernel
theorem dX10_tell_12 : decode cX10_tell 12 = .ok (.bipush 20, 2) := by decide +kernel
theorem dX10_tell_14 : decode cX10_tell 14 = .ok (.if_icmp .lt 5, 3) := by decide +kernel
theorem dX10_tell_17 : decode cX10_tell 17 = .ok (.iconst (-1), 1) := by decide +kernel
theorem dX10_tell_18 : decode cX10_tell 18 = .ok (.ireturn, 1) := by decide +kernel
theorem dX10_tell_19 : decode cX10_tell 19 = .ok (.aload_n 0, 1) := by decide +kernel
theorem dX10_tell_20 : decode cX10_tell 20 = .ok (.getfield 97, 3) := by decide +kernel
theorem dX10_tell_23 : decode cX10_tell 23 = .ok (.istore_n 3, 1) := by decide +kernel
theorem dX10_tell_24 : decode cX10_tell 24 = .ok (.aload_n 0, 1) := by decide +kernel
theorem dX10_tell_25 : decode cX10_tell 25 = .ok (.getfield 90, 3) := by decide +kernel
theorem dX10_tell_28 : decode cX10_tell 28 = .ok (.iload_n 3, 1) := by decide +kernel
theorem dX10_tell_29 : decode cX10_tell 29 = .ok (.iload_n 1, 1) := by decide +kernel
theorem dX10_tell_30 : decode cX10_tell 30 = .ok (.iastore, 1) := by decide +kernel
theorem dX10_tell_31 : decode cX10_tell 31 = .ok (.aload_n 0, 1) := by decide +kernel
theorem dX10_tell_32 : decode cX10_tell 32 = .ok (.iload_n 2, 1) := by decide +kernel
theorem dX10_tell_33 : decode cX10_tell 33 = .ok (.ifCond .eq 14, 3) := by decide +kernel
theorem dX10_tell_36 : decode cX10_tell 36 = .ok (.aload_n 0, 1) := by decide +kernel
theorem dX10_tell_37 : decode cX10_tell 37 = .ok (.getfield 94, 3) := by decide +kernel
theorem dX10_tell_40 : decode cX10_tell 40 = .ok (.iconst 1, 1) := by decide +kernel
theorem dX10_tell_41 : decode cX10_tell 41 = .ok (.iload_n 3, 1) := by decide +kernel
theorem dX10_tell_42 : decode cX10_tell 42 = .ok (.ishl, 1) := by decide +kernel
theorem dX10_tell_43 : decode cX10_tell 43 = .ok (.ior, 1) := by decide +kernel
theorem dX10_tell_44 : decode cX10_tell 44 = .ok (.goto 13, 3) := by decide +kernel
theorem dX10_tell_47 : decode cX10_tell 47 = .ok (.aload_n 0, 1) := by decide +kernel
theorem dX10_tell_48 : decode cX10_tell 48 = .ok (.getfield 94, 3) := by decide +kernel
theorem dX10_tell_51 : decode cX10_tell 51 = .ok (.iconst 1, 1) := by decide +kernel
theorem dX10_tell_52 : decode cX10_tell 52 = .ok (.iload_n 3, 1) := by decide +kernel
theorem dX10_tell_53 : decode cX10_tell 53 = .ok (.ishl, 1) := by decide +kernel
theorem dX10_tell_54 : decode cX10_tell 54 = .ok (.iconst (-1), 1) := by decide +kernel
theorem dX10_tell_55 : decode cX10_tell 55 = .ok (.ixor, 1) := by decide +kernel
theorem dX10_tell_56 : decode cX10_tell 56 = .ok (.iand, 1) := by decide +kernel
theorem dX10_tell_57 : decode cX10_tell 57 = .ok (.putfield 94, 3) := by decide +kernel
theorem dX10_tell_60 : decode cX10_tell 60 = .ok (.aload_n 0, 1) := by decide +kernel
theorem dX10_tell_61 : decode cX10_tell 61 = .ok (.iload_n 3, 1) := by decide +kernel
theorem dX10_tell_62 : decode cX10_tell 62 = .ok (.iconst 1, 1) := by decide +kernel
theorem dX10_tell_63 : decode cX10_tell 63 = .ok (.iadd, 1) := by decide +kernel
theorem dX10_tell_64 : decode cX10_tell 64 = .ok (.putfield 97, 3) := by decide +kernel
theorem dX10_tell_67 : decode cX10_tell 67 = .ok (.iload_n 3, 1) := by decide +kernel
theorem dX10_tell_68 : decode cX10_tell 68 = .ok (.ireturn, 1) := by decide +kernel
theorem dX10_forget_0 : decode cX10_forget 0 = .ok (.aload_n 0, 1) := by decide +kernel
theorem dX10_forget_1 : decode cX10_forget 1 = .ok (.getfield 97, 3) := by decide +kernel
theorem dX10_forget_4 : decode cX10_forget 4 = .ok (.istore_n 1, 1) := by decide +kernel
theorem dX10_forget_5 : decode cX10_forget 5 = .ok (.aload_n 0, 1) := by decide +kernel
theorem dX10_forget_6 : decode cX10_forget 6 = .ok (.iconst 0, 1) := by decide +kernel
theorem dX10_forget_7 : decode cX10_forget 7 = .ok (.putfield 97, 3) := by decide +kernel
theorem dX10_forget_10 : decode cX10_forget 10 = .ok (.iload_n 1, 1) := by decide +kernel
theorem dX10_forget_11 : decode cX10_forget 11 = .ok (.ireturn, 1) := by decide +kernel
theorem dX10_which_0 : decode cX10_which 0 = .ok (.iload_n 1, 1) := by decide +kernel
theorem dX10_which_1 : decode cX10_which 1 = .ok (.ifCond .lt 20, 3) := by decide +kernel
theorem dX10_which_4 : decode cX10_which 4 = .ok (.iload_n 1, 1) := by decide +kernel
theorem dX10_which_5 : decode cX10_which 5 = .ok (.aload_n 0, 1) := by decide +kernel
theorem dX10_which_6 : decode cX10_which 6 = .ok (.getfield 97, 3) := by decide +kernel
theorem dX10_which_9 : decode cX10_which 9 = .ok (.if_icmp .gt 12, 3) := by decide +kernel
theorem dX10_which_12 : decode cX10_which 12 = .ok (.iload_n 2, 1) := by decide +kernel
theorem dX10_which_13 : decode cX10_which 13 = .ok (.ifCond .eq 10, 3) := by decide +kernel
theorem dX10_which_16 : decode cX10_which 16 = .ok (.iload_n 2, 1) := by decide +kernel
theorem dX10_which_17 : decode cX10_which 17 = .ok (.iconst 1, 1) := by decide +kernel
theorem dX10_which_18 : decode cX10_which 18 = .ok (.if_icmp .eq 5, 3) := by decide +kernel
theorem dX10_which_21 : decode cX10_which 21 = .ok (.iconst (-1), 1) := by decide +kernel
theorem dX10_which_22 : decode cX10_which 22 = .ok (.ireturn, 1) := by decide +kernel
theorem dX10_which_23 : decode cX10_which 23 = .ok (.aload_n 0, 1) := by decide +kernel
theorem dX10_which_24 : decode cX10_which 24 = .ok (.iload_n 1, 1) := by decide +kernel
theorem dX10_which_25 : decode cX10_which 25 = .ok (.invokevirtual 309, 3) := by decide +kernel
theorem dX10_which_28 : decode cX10_which 28 = .ok (.istore_n 3, 1) := by decide +kernel
theorem dX10_which_29 : decode cX10_which 29 = .ok (.iload_n 2, 1) := by decide +kernel
theorem dX10_which_30 : decode cX10_which 30 = .ok (.ifCond .ne 10, 3) := by decide +kernel
theorem dX10_which_33 : decode cX10_which 33 = .ok (.iload_n 3, 1) := by decide +kernel
theorem dX10_which_34 : decode cX10_which 34 = .ok (.invokestatic 150, 3) := by decide +kernel
theorem dX10_which_37 : decode cX10_which 37 = .ok (.goto 4, 3) := by decide +kernel
theorem dX10_which_40 : decode cX10_which 40 = .ok (.iload_n 3, 1) := by decide +kernel
theorem dX10_which_41 : decode cX10_which 41 = .ok (.ireturn, 1) := by decide +kernel
theorem dX10_ask_0 : decode cX10_ask 0 = .ok (.iload_n 1, 1) := by decide +kernel
theorem dX10_ask_1 : decode cX10_ask 1 = .ok (.ifCond .lt 11, 3) := by decide +kernel
theorem dX10_ask_4 : decode cX10_ask 4 = .ok (.iload_n 1, 1) := by decide +kernel
theorem dX10_ask_5 : decode cX10_ask 5 = .ok (.aload_n 0, 1) := by decide +kernel
theorem dX10_ask_6 : decode cX10_ask 6 = .ok (.getfield 97, 3) := by decide +kernel
theorem dX10_ask_9 : decode cX10_ask 9 = .ok (.if_icmp .le 5, 3) := by decide +kernel
theorem dX10_ask_12 : decode cX10_ask 12 = .ok (.iconst (-1), 1) := by decide +kernel
theorem dX10_ask_13 : decode cX10_ask 13 = .ok (.ireturn, 1) := by decide +kernel
theorem dX10_ask_14 : decode cX10_ask 14 = .ok (.aload_n 0, 1) := by decide +kernel
theorem dX10_ask_15 : decode cX10_ask 15 = .ok (.iload_n 1, 1) := by decide +kernel
theorem dX10_ask_16 : decode cX10_ask 16 = .ok (.invokevirtual 309, 3) := by decide +kernel
theorem dX10_ask_19 : decode cX10_ask 19 = .ok (.istore_n 2, 1) := by decide +kernel
theorem dX10_ask_20 : decode cX10_ask 20 = .ok (.iload_n 2, 1) := by decide +kernel
theorem dX10_ask_21 : decode cX10_ask 21 = .ok (.ifCond .ne 6, 3) := by decide +kernel
theorem dX10_ask_24 : decode cX10_ask 24 = .ok (.bipush (-2), 2) := by decide +kernel
theorem dX10_ask_26 : decode cX10_ask 26 = .ok (.ireturn, 1) := by decide +kernel
theorem dX10_ask_27 : decode cX10_ask 27 = .ok (.bipush (-2), 2) := by decide +kernel
theorem dX10_ask_29 : decode cX10_ask 29 = .ok (.istore_n 3, 1) := by decide +kernel
theorem dX10_ask_30 : decode cX10_ask 30 = .ok (.bipush 21, 2) := by decide +kernel
theorem dX10_ask_32 : decode cX10_ask 32 = .ok (.istore 4, 2) := by decide +kernel
theorem dX10_ask_34 : decode cX10_ask 34 = .ok (.iconst 0, 1) := by decide +kernel
theorem dX10_ask_35 : decode cX10_ask 35 = .ok (.istore 5, 2) := by decide +kernel
theorem dX10_ask_37 : decode cX10_ask 37 = .ok (.iload 5, 2) := by decide +kernel
theorem dX10_ask_39 : decode cX10_ask 39 = .ok (.aload_n 0, 1) := by decide +kernel
theorem dX10_ask_40 : decode cX10_ask 40 = .ok (.getfield 27, 3) := by decide +kernel
theorem dX10_ask_43 : decode cX10_ask 43 = .ok (.getfield 209, 3) := by decide +kernel
theorem dX10_ask_46 : decode cX10_ask 46 = .ok (.if_icmp .ge 57, 3) := by decide +kernel
theorem dX10_ask_49 : decode cX10_ask 49 = .ok (.iload_n 2, 1) := by decide +kernel
theorem dX10_ask_50 : decode cX10_ask 50 = .ok (.aload_n 0, 1) := by decide +kernel
theorem dX10_ask_51 : decode cX10_ask 51 = .ok (.getfield 72, 3) := by decide +kernel
theorem dX10_ask_54 : decode cX10_ask 54 = .ok (.aload_n 0, 1) := by decide +kernel
theorem dX10_ask_55 : decode cX10_ask 55 = .ok (.getfield 60, 3) := by decide +kernel
theorem dX10_ask_58 : decode cX10_ask 58 = .ok (.iload 5, 2) := by decide +kernel
theorem dX10_ask_60 : decode cX10_ask 60 = .ok (.invokevirtual 168, 3) := by decide +kernel
theorem dX10_ask_63 : decode cX10_ask 63 = .ok (.iand, 1) := by decide +kernel
theorem dX10_ask_64 : decode cX10_ask 64 = .ok (.invokestatic 150, 3) := by decide +kernel
theorem dX10_ask_67 : decode cX10_ask 67 = .ok (.istore 6, 2) := by decide +kernel
theorem dX10_ask_69 : decode cX10_ask 69 = .ok (.iload 6, 2) := by decide +kernel
theorem dX10_ask_71 : decode cX10_ask 71 = .ok (.iload_n 2, 1) := by decide +kernel
theorem dX10_ask_72 : decode cX10_ask 72 = .ok (.invokestatic 150, 3) := by decide +kernel
theorem dX10_ask_75 : decode cX10_ask 75 = .ok (.iload 6, 2) := by decide +kernel
theorem dX10_ask_77 : decode cX10_ask 77 = .ok (.isub, 1) := by decide +kernel
theorem dX10_ask_78 : decode cX10_ask 78 = .ok (.invokestatic 312, 3) := by decide +kernel
theorem dX10_ask_81 : decode cX10_ask 81 = .ok (.istore 7, 2) := by decide +kernel
theorem dX10_ask_83 : decode cX10_ask 83 = .ok (.iload 7, 2) := by decide +kernel
theorem dX10_ask_85 : decode cX10_ask 85 = .ok (.iload 4, 2) := by decide +kernel
theorem dX10_ask_87 : decode cX10_ask 87 = .ok (.if_icmp .ge 10, 3) := by decide +kernel
theorem dX10_ask_90 : decode cX10_ask 90 = .ok (.iload 7, 2) := by decide +kernel
theorem dX10_ask_92 : decode cX10_ask 92 = .ok (.istore 4, 2) := by decide +kernel
theorem dX10_ask_94 : decode cX10_ask 94 = .ok (.iload 5, 2) := by decide +kernel
theorem dX10_ask_96 : decode cX10_ask 96 = .ok (.istore_n 3, 1) := by decide +kernel
theorem dX10_ask_97 : decode cX10_ask 97 = .ok (.iinc 5 1, 3) := by decide +kernel
theorem dX10_ask_100 : decode cX10_ask 100 = .ok (.goto (-63), 3) := by decide +kernel
theorem dX10_ask_103 : decode cX10_ask 103 = .ok (.iload_n 3, 1) := by decide +kernel
theorem dX10_ask_104 : decode cX10_ask 104 = .ok (.ireturn, 1) := by decide +kernel
theorem dX10_hold_0 : decode cX10_hold 0 = .ok (.iload_n 1, 1) := by decide +kernel
theorem dX10_hold_1 : decode cX10_hold 1 = .ok (.ifCond .lt 8, 3) := by decide +kernel
theorem dX10_hold_4 : decode cX10_hold 4 = .ok (.iload_n 1, 1) := by decide +kernel
theorem dX10_hold_5 : decode cX10_hold 5 = .ok (.iconst 3, 1) := by decide +kernel
theorem dX10_hold_6 : decode cX10_hold 6 = .ok (.if_icmp .lt 5, 3) := by decide +kernel
theorem dX10_hold_9 : decode cX10_hold 9 = .ok (.iconst 0, 1) := by decide +kernel
theorem dX10_hold_10 : decode cX10_hold 10 = .ok (.ireturn, 1) := by decide +kernel
theorem dX10_hold_11 : decode cX10_hold 11 = .ok (.aload_n 0, 1) := by decide +kernel
theorem dX10_hold_12 : decode cX10_hold 12 = .ok (.getfield 86, 3) := by decide +kernel
theorem dX10_hold_15 : decode cX10_hold 15 = .ok (.iload_n 1, 1) := by decide +kernel
theorem dX10_hold_16 : decode cX10_hold 16 = .ok (.aload_n 0, 1) := by decide +kernel
theorem dX10_hold_17 : decode cX10_hold 17 = .ok (.getfield 60, 3) := by decide +kernel
theorem dX10_hold_20 : decode cX10_hold 20 = .ok (.aload_n 0, 1) := by decide +kernel
theorem dX10_hold_21 : decode cX10_hold 21 = .ok (.getfield 53, 3) := by decide +kernel
theorem dX10_hold_24 : decode cX10_hold 24 = .ok (.invokevirtual 317, 3) := by decide +kernel
theorem dX10_hold_27 : decode cX10_hold 27 = .ok (.iconst 1, 1) := by decide +kernel
theorem dX10_hold_28 : decode cX10_hold 28 = .ok (.ireturn, 1) := by decide +kernel
theorem dX10_restore_0 : decode cX10_restore 0 = .ok (.iload_n 1, 1) := by decide +kernel
theorem dX10_restore_1 : decode cX10_restore 1 = .ok (.ifCond .lt 8, 3) := by decide +kernel
theorem dX10_restore_4 : decode cX10_restore 4 = .ok (.iload_n 1, 1) := by decide +kernel
theorem dX10_restore_5 : decode cX10_restore 5 = .ok (.iconst 3, 1) := by decide +kernel
theorem dX10_restore_6 : decode cX10_restore 6 = .ok (.if_icmp .lt 5, 3) := by decide +kernel
theorem dX10_restore_9 : decode cX10_restore 9 = .ok (.iconst 0, 1) := by decide +kernel
theorem dX10_restore_10 : decode cX10_restore 10 = .ok (.ireturn, 1) := by decide +kernel
theorem dX10_restore_11 : decode cX10_restore 11 = .ok (.aload_n 0, 1) := by decide +kernel
theorem dX10_restore_12 : decode cX10_restore 12 = .ok (.getfield 86, 3) := by decide +kernel
theorem dX10_restore_15 : decode cX10_restore 15 = .ok (.iload_n 1, 1) := by decide +kernel
theorem dX10_restore_16 : decode cX10_restore 16 = .ok (.aload_n 0, 1) := by decide +kernel
theorem dX10_restore_17 : decode cX10_restore 17 = .ok (.getfield 60, 3) := by decide +kernel
theorem dX10_restore_20 : decode cX10_restore 20 = .ok (.aload_n 0, 1) := by decide +kernel
theorem dX10_restore_21 : decode cX10_restore 21 = .ok (.getfield 53, 3) := by decide +kernel
theorem dX10_restore_24 : decode cX10_restore 24 = .ok (.invokevirtual 321, 3) := by decide +kernel
theorem dX10_restore_27 : decode cX10_restore 27 = .ok (.ireturn, 1) := by decide +kernel
theorem dX10_count_0 : decode cX10_count 0 = .ok (.iload_n 1, 1) := by decide +kernel
theorem dX10_count_1 : decode cX10_count 1 = .ok (.tableswitch 206 0 15 #[79, 87, 95, 103, 111, 119, 127, 139, 151, 159, 164, 172, 177, 188, 196, 201], 79) := by decide +kernel
theorem dX10_count_80 : decode cX10_count 80 = .ok (.aload_n 0, 1) := by decide +kernel
theorem dX10_count_81 : decode cX10_count 81 = .ok (.getfield 27, 3) := by decide +kernel
theorem dX10_count_84 : decode cX10_count 84 = .ok (.getfield 289, 3) := by decide +kernel
theorem dX10_count_87 : decode cX10_count 87 = .ok (.ireturn, 1) := by decide +kernel
theorem dX10_count_88 : decode cX10_count 88 = .ok (.aload_n 0, 1) := by decide +kernel
theorem dX10_count_89 : decode cX10_count 89 = .ok (.getfield 27, 3) := by decide +kernel
theorem dX10_count_92 : decode cX10_count 92 = .ok (.getfield 242, 3) := by decide +kernel
theorem dX10_count_95 : decode cX10_count 95 = .ok (.ireturn, 1) := by decide +kernel
theorem dX10_count_96 : decode cX10_count 96 = .ok (.aload_n 0, 1) := by decide +kernel
theorem dX10_count_97 : decode cX10_count 97 = .ok (.getfield 27, 3) := by decide +kernel
theorem dX10_count_100 : decode cX10_count 100 = .ok (.getfield 209, 3) := by decide +kernel
theorem dX10_count_103 : decode cX10_count 103 = .ok (.ireturn, 1) := by decide +kernel
theorem dX10_count_104 : decode cX10_count 104 = .ok (.aload_n 0, 1) := by decide +kernel
theorem dX10_count_105 : decode cX10_count 105 = .ok (.getfield 60, 3) := by decide +kernel
theorem dX10_count_108 : decode cX10_count 108 = .ok (.getfield 212, 3) := by decide +kernel
theorem dX10_count_111 : decode cX10_count 111 = .ok (.ireturn, 1) := by decide +kernel
theorem dX10_count_112 : decode cX10_count 112 = .ok (.aload_n 0, 1) := by decide +kernel
theorem dX10_count_113 : decode cX10_count 113 = .ok (.getfield 60, 3) := by decide +kernel
theorem dX10_count_116 : decode cX10_count 116 = .ok (.getfield 186, 3) := by decide +kernel
theorem dX10_count_119 : decode cX10_count 119 = .ok (.ireturn, 1) := by decide +kernel
theorem dX10_count_120 : decode cX10_count 120 = .ok (.aload_n 0, 1) := by decide +kernel
theorem dX10_count_121 : decode cX10_count 121 = .ok (.getfield 60, 3) := by decide +kernel
theorem dX10_count_124 : decode cX10_count 124 = .ok (.getfield 165, 3) := by decide +kernel
theorem dX10_count_127 : decode cX10_count 127 = .ok (.ireturn, 1) := by decide +kernel
theorem dX10_count_128 : decode cX10_count 128 = .ok (.aload_n 0, 1) := by decide +kernel
theorem dX10_count_129 : decode cX10_count 129 = .ok (.getfield 72, 3) := by decide +kernel
theorem dX10_count_132 : decode cX10_count 132 = .ok (.aload_n 0, 1) := by decide +kernel
theorem dX10_count_133 : decode cX10_count 133 = .ok (.getfield 60, 3) := by decide +kernel
theorem dX10_count_136 : decode cX10_count 136 = .ok (.invokevirtual 292, 3) := by decide +kernel
theorem dX10_count_139 : decode cX10_count 139 = .ok (.ireturn, 1) := by decide +kernel
theorem dX10_count_140 : decode cX10_count 140 = .ok (.aload_n 0, 1) := by decide +kernel
theorem dX10_count_141 : decode cX10_count 141 = .ok (.getfield 72, 3) := by decide +kernel
theorem dX10_count_144 : decode cX10_count 144 = .ok (.aload_n 0, 1) := by decide +kernel
theorem dX10_count_145 : decode cX10_count 145 = .ok (.getfield 60, 3) := by decide +kernel
theorem dX10_count_148 : decode cX10_count 148 = .ok (.invokevirtual 303, 3) := by decide +kernel
theorem dX10_count_151 : decode cX10_count 151 = .ok (.ireturn, 1) := by decide +kernel
theorem dX10_count_152 : decode cX10_count 152 = .ok (.aload_n 0, 1) := by decide +kernel
theorem dX10_count_153 : decode cX10_count 153 = .ok (.getfield 60, 3) := by decide +kernel
theorem dX10_count_156 : decode cX10_count 156 = .ok (.getfield 203, 3) := by decide +kernel
theorem dX10_count_159 : decode cX10_count 159 = .ok (.ireturn, 1) := by decide +kernel
theorem dX10_count_160 : decode cX10_count 160 = .ok (.aload_n 0, 1) := by decide +kernel
theorem dX10_count_161 : decode cX10_count 161 = .ok (.getfield 13, 3) := by decide +kernel
theorem dX10_count_164 : decode cX10_count 164 = .ok (.ireturn, 1) := by decide +kernel
theorem dX10_count_165 : decode cX10_count 165 = .ok (.aload_n 0, 1) := by decide +kernel
theorem dX10_count_166 : decode cX10_count 166 = .ok (.getfield 86, 3) := by decide +kernel
theorem dX10_count_169 : decode cX10_count 169 = .ok (.getfield 325, 3) := by decide +kernel
theorem dX10_count_172 : decode cX10_count 172 = .ok (.ireturn, 1) := by decide +kernel
theorem dX10_count_173 : decode cX10_count 173 = .ok (.aload_n 0, 1) := by decide +kernel
theorem dX10_count_174 : decode cX10_count 174 = .ok (.getfield 97, 3) := by decide +kernel
theorem dX10_count_177 : decode cX10_count 177 = .ok (.ireturn, 1) := by decide +kernel
theorem dX10_count_178 : decode cX10_count 178 = .ok (.aload_n 0, 1) := by decide +kernel
theorem dX10_count_179 : decode cX10_count 179 = .ok (.getfield 86, 3) := by decide +kernel
theorem dX10_count_182 : decode cX10_count 182 = .ok (.getfield 328, 3) := by decide +kernel
theorem dX10_count_185 : decode cX10_count 185 = .ok (.invokestatic 150, 3) := by decide +kernel
theorem dX10_count_188 : decode cX10_count 188 = .ok (.ireturn, 1) := by decide +kernel
theorem dX10_count_189 : decode cX10_count 189 = .ok (.aload_n 0, 1) := by decide +kernel
theorem dX10_count_190 : decode cX10_count 190 = .ok (.getfield 27, 3) := by decide +kernel
theorem dX10_count_193 : decode cX10_count 193 = .ok (.getfield 331, 3) := by decide +kernel
theorem dX10_count_196 : decode cX10_count 196 = .ok (.ireturn, 1) := by decide +kernel
theorem dX10_count_197 : decode cX10_count 197 = .ok (.aload_n 0, 1) := by decide +kernel
theorem dX10_count_198 : decode cX10_count 198 = .ok (.invokevirtual 334, 3) := by decide +kernel
theorem dX10_count_201 : decode cX10_count 201 = .ok (.ireturn, 1) := by decide +kernel
theorem dX10_count_202 : decode cX10_count 202 = .ok (.aload_n 0, 1) := by decide +kernel
theorem dX10_count_203 : decode cX10_count 203 = .ok (.invokevirtual 338, 3) := by decide +kernel
theorem dX10_count_206 : decode cX10_count 206 = .ok (.ireturn, 1) := by decide +kernel
theorem dX10_count_207 : decode cX10_count 207 = .ok (.iconst (-1), 1) := by decide +kernel
theorem dX10_count_208 : decode cX10_count 208 = .ok (.ireturn, 1) := by decide +kernel
theorem dX10_noPlot_0 : decode cX10_noPlot 0 = .ok (.iload_n 1, 1) := by decide +kernel
theorem dX10_noPlot_1 : decode cX10_noPlot 1 = .ok (.ifCond .lt 14, 3) := by decide +kernel
theorem dX10_noPlot_4 : decode cX10_noPlot 4 = .ok (.iload_n 1, 1) := by decide +kernel
theorem dX10_noPlot_5 : decode cX10_noPlot 5 = .ok (.aload_n 0, 1) := by decide +kernel
theorem dX10_noPlot_6 : decode cX10_noPlot 6 = .ok (.getfield 27, 3) := by decide +kernel
theorem dX10_noPlot_9 : decode cX10_noPlot 9 = .ok (.getfield 242, 3) := by decide +kernel
theorem dX10_noPlot_12 : decode cX10_noPlot 12 = .ok (.if_icmp .lt 7, 3) := by decide +kernel
theorem dX10_noPlot_15 : decode cX10_noPlot 15 = .ok (.iconst 1, 1) := by decide +kernel
theorem dX10_noPlot_16 : decode cX10_noPlot 16 = .ok (.goto 4, 3) := by decide +kernel
theorem dX10_noPlot_19 : decode cX10_noPlot 19 = .ok (.iconst 0, 1) := by decide +kernel
theorem dX10_noPlot_20 : decode cX10_noPlot 20 = .ok (.ireturn, 1) := by decide +kernel
theorem dX10_noPerson_0 : decode cX10_noPerson 0 = .ok (.iload_n 1, 1) := by decide +kernel
theorem dX10_noPerson_1 : decode cX10_noPerson 1 = .ok (.ifCond .lt 14, 3) := by decide +kernel
theorem dX10_noPerson_4 : decode cX10_noPerson 4 = .ok (.iload_n 1, 1) := by decide +kernel
theorem dX10_noPerson_5 : decode cX10_noPerson 5 = .ok (.aload_n 0, 1) := by decide +kernel
theorem dX10_noPerson_6 : decode cX10_noPerson 6 = .ok (.getfield 27, 3) := by decide +kernel
theorem dX10_noPerson_9 : decode cX10_noPerson 9 = .ok (.getfield 289, 3) := by decide +kernel
theorem dX10_noPerson_12 : decode cX10_noPerson 12 = .ok (.if_icmp .lt 7, 3) := by decide +kernel
theorem dX10_noPerson_15 : decode cX10_noPerson 15 = .ok (.iconst 1, 1) := by decide +kernel
theorem dX10_noPerson_16 : decode cX10_noPerson 16 = .ok (.goto 4, 3) := by decide +kernel
theorem dX10_noPerson_19 : decode cX10_noPerson 19 = .ok (.iconst 0, 1) := by decide +kernel
theorem dX10_noPerson_20 : decode cX10_noPerson 20 = .ok (.ireturn, 1) := by decide +kernel
theorem dX10_noWitness_0 : decode cX10_noWitness 0 = .ok (.iload_n 1, 1) := by decide +kernel
theorem dX10_noWitness_1 : decode cX10_noWitness 1 = .ok (.ifCond .lt 14, 3) := by decide +kernel
theorem dX10_noWitness_4 : decode cX10_noWitness 4 = .ok (.iload_n 1, 1) := by decide +kernel
theorem dX10_noWitness_5 : decode cX10_noWitness 5 = .ok (.aload_n 0, 1) := by decide +kernel
theorem dX10_noWitness_6 : decode cX10_noWitness 6 = .ok (.getfield 27, 3) := by decide +kernel
theorem dX10_noWitness_9 : decode cX10_noWitness 9 = .ok (.getfield 209, 3) := by decide +kernel
theorem dX10_noWitness_12 : decode cX10_noWitness 12 = .ok (.if_icmp .lt 7, 3) := by decide +kernel
theorem dX10_noWitness_15 : decode cX10_noWitness 15 = .ok (.iconst 1, 1) := by decide +kernel
theorem dX10_noWitness_16 : decode cX10_noWitness 16 = .ok (.goto 4, 3) := by decide +kernel
theorem dX10_noWitness_19 : decode cX10_noWitness 19 = .ok (.iconst 0, 1) := by decide +kernel
theorem dX10_noWitness_20 : decode cX10_noWitness 20 = .ok (.ireturn, 1) := by decide +kernel
theorem dX10_noGiving_0 : decode cX10_noGiving 0 = .ok (.iload_n 1, 1) := by decide +kernel
theorem dX10_noGiving_1 : decode cX10_noGiving 1 = .ok (.ifCond .lt 14, 3) := by decide +kernel
theorem dX10_noGiving_4 : decode cX10_noGiving 4 = .ok (.iload_n 1, 1) := by decide +kernel
theorem dX10_noGiving_5 : decode cX10_noGiving 5 = .ok (.aload_n 0, 1) := by decide +kernel
theorem dX10_noGiving_6 : decode cX10_noGiving 6 = .ok (.getfield 60, 3) := by decide +kernel
theorem dX10_noGiving_9 : decode cX10_noGiving 9 = .ok (.getfield 212, 3) := by decide +kernel
theorem dX10_noGiving_12 : decode cX10_noGiving 12 = .ok (.if_icmp .lt 7, 3) := by decide +kernel
theorem dX10_noGiving_15 : decode cX10_noGiving 15 = .ok (.iconst 1, 1) := by decide +kernel
theorem dX10_noGiving_16 : decode cX10_noGiving 16 = .ok (.goto 4, 3) := by decide +kernel
theorem dX10_noGiving_19 : decode cX10_noGiving 19 = .ok (.iconst 0, 1) := by decide +kernel
theorem dX10_noGiving_20 : decode cX10_noGiving 20 = .ok (.ireturn, 1) := by decide +kernel
theorem dX10_noYears_0 : decode cX10_noYears 0 = .ok (.iload_n 0, 1) := by decide +kernel
theorem dX10_noYears_1 : decode cX10_noYears 1 = .ok (.ifCond .lt 9, 3) := by decide +kernel
theorem dX10_noYears_4 : decode cX10_noYears 4 = .ok (.iload_n 0, 1) := by decide +kernel
theorem dX10_noYears_5 : decode cX10_noYears 5 = .ok (.bipush 60, 2) := by decide +kernel
theorem dX10_noYears_7 : decode cX10_noYears 7 = .ok (.if_icmp .le 7, 3) := by decide +kernel
theorem dX10_noYears_10 : decode cX10_noYears 10 = .ok (.iconst 1, 1) := by decide +kernel
theorem dX10_noYears_11 : decode cX10_noYears 11 = .ok (.goto 4, 3) := by decide +kernel
theorem dX10_noYears_14 : decode cX10_noYears 14 = .ok (.iconst 0, 1) := by decide +kernel
theorem dX10_noYears_15 : decode cX10_noYears 15 = .ok (.ireturn, 1) := by decide +kernel
theorem dX10_tapeFour_0 : decode cX10_tapeFour 0 = .ok (.bipush 24, 2) := by decide +kernel
theorem dX10_tapeFour_2 : decode cX10_tapeFour 2 = .ok (.istore_n 2, 1) := by decide +kernel
theorem dX10_tapeFour_3 : decode cX10_tapeFour 3 = .ok (.iload_n 2, 1) := by decide +kernel
theorem dX10_tapeFour_4 : decode cX10_tapeFour 4 = .ok (.ifCond .lt 42, 3) := by decide +kernel
theorem dX10_tapeFour_7 : decode cX10_tapeFour 7 = .ok (.aload_n 0, 1) := by decide +kernel
theorem dX10_tapeFour_8 : decode cX10_tapeFour 8 = .ok (.getfield 13, 3) := by decide +kernel
theorem dX10_tapeFour_11 : decode cX10_tapeFour 11 = .ok (.sipush 2000, 3) := by decide +kernel
theorem dX10_tapeFour_14 : decode cX10_tapeFour 14 = .ok (.if_icmp .ge 32, 3) := by decide +kernel
theorem dX10_tapeFour_17 : decode cX10_tapeFour 17 = .ok (.aload_n 0, 1) := by decide +kernel
theorem dX10_tapeFour_18 : decode cX10_tapeFour 18 = .ok (.getfield 9, 3) := by decide +kernel
theorem dX10_tapeFour_21 : decode cX10_tapeFour 21 = .ok (.aload_n 0, 1) := by decide +kernel
theorem dX10_tapeFour_22 : decode cX10_tapeFour 22 = .ok (.getfield 13, 3) := by decide +kernel
theorem dX10_tapeFour_25 : decode cX10_tapeFour 25 = .ok (.iload_n 1, 1) := by decide +kernel
theorem dX10_tapeFour_26 : decode cX10_tapeFour 26 = .ok (.iload_n 2, 1) := by decide +kernel
theorem dX10_tapeFour_27 : decode cX10_tapeFour 27 = .ok (.iushr, 1) := by decide +kernel
theorem dX10_tapeFour_28 : decode cX10_tapeFour 28 = .ok (.i2b, 1) := by decide +kernel
theorem dX10_tapeFour_29 : decode cX10_tapeFour 29 = .ok (.bastore, 1) := by decide +kernel
theorem dX10_tapeFour_30 : decode cX10_tapeFour 30 = .ok (.aload_n 0, 1) := by decide +kernel
theorem dX10_tapeFour_31 : decode cX10_tapeFour 31 = .ok (.dup, 1) := by decide +kernel
theorem dX10_tapeFour_32 : decode cX10_tapeFour 32 = .ok (.getfield 13, 3) := by decide +kernel
theorem dX10_tapeFour_35 : decode cX10_tapeFour 35 = .ok (.iconst 1, 1) := by decide +kernel
theorem dX10_tapeFour_36 : decode cX10_tapeFour 36 = .ok (.iadd, 1) := by decide +kernel
theorem dX10_tapeFour_37 : decode cX10_tapeFour 37 = .ok (.putfield 13, 3) := by decide +kernel
theorem dX10_tapeFour_40 : decode cX10_tapeFour 40 = .ok (.iinc 2 (-8), 3) := by decide +kernel
theorem dX10_tapeFour_43 : decode cX10_tapeFour 43 = .ok (.goto (-40), 3) := by decide +kernel
theorem dX10_tapeFour_46 : decode cX10_tapeFour 46 = .ok (.return_, 1) := by decide +kernel
theorem dX10_beginWithSpareLand_0 : decode cX10_beginWithSpareLand 0 = .ok (.aload_n 0, 1) := by decide +kernel
theorem dX10_beginWithSpareLand_1 : decode cX10_beginWithSpareLand 1 = .ok (.getfield 31, 3) := by decide +kernel
theorem dX10_beginWithSpareLand_4 : decode cX10_beginWithSpareLand 4 = .ok (.astore_n 1, 1) := by decide +kernel
theorem dX10_beginWithSpareLand_5 : decode cX10_beginWithSpareLand 5 = .ok (.aload_n 0, 1) := by decide +kernel
theorem dX10_beginWithSpareLand_6 : decode cX10_beginWithSpareLand 6 = .ok (.aload_n 0, 1) := by decide +kernel
theorem dX10_beginWithSpareLand_7 : decode cX10_beginWithSpareLand 7 = .ok (.getfield 27, 3) := by decide +kernel
theorem dX10_beginWithSpareLand_10 : decode cX10_beginWithSpareLand 10 = .ok (.putfield 31, 3) := by decide +kernel
theorem dX10_beginWithSpareLand_13 : decode cX10_beginWithSpareLand 13 = .ok (.aload_n 0, 1) := by decide +kernel
theorem dX10_beginWithSpareLand_14 : decode cX10_beginWithSpareLand 14 = .ok (.aload_n 1, 1) := by decide +kernel
theorem dX10_beginWithSpareLand_15 : decode cX10_beginWithSpareLand 15 = .ok (.putfield 27, 3) := by decide +kernel
theorem dX10_beginWithSpareLand_18 : decode cX10_beginWithSpareLand 18 = .ok (.aload_n 0, 1) := by decide +kernel
theorem dX10_beginWithSpareLand_19 : decode cX10_beginWithSpareLand 19 = .ok (.getfield 72, 3) := by decide +kernel
theorem dX10_beginWithSpareLand_22 : decode cX10_beginWithSpareLand 22 = .ok (.aload_n 1, 1) := by decide +kernel
theorem dX10_beginWithSpareLand_23 : decode cX10_beginWithSpareLand 23 = .ok (.putfield 341, 3) := by decide +kernel
theorem dX10_beginWithSpareLand_26 : decode cX10_beginWithSpareLand 26 = .ok (.aload_n 0, 1) := by decide +kernel
theorem dX10_beginWithSpareLand_27 : decode cX10_beginWithSpareLand 27 = .ok (.getfield 53, 3) := by decide +kernel
theorem dX10_beginWithSpareLand_30 : decode cX10_beginWithSpareLand 30 = .ok (.aload_n 1, 1) := by decide +kernel
theorem dX10_beginWithSpareLand_31 : decode cX10_beginWithSpareLand 31 = .ok (.getfield 342, 3) := by decide +kernel
theorem dX10_beginWithSpareLand_34 : decode cX10_beginWithSpareLand 34 = .ok (.invokevirtual 344, 3) := by decide +kernel
theorem dX10_beginWithSpareLand_37 : decode cX10_beginWithSpareLand 37 = .ok (.aload_n 0, 1) := by decide +kernel
theorem dX10_beginWithSpareLand_38 : decode cX10_beginWithSpareLand 38 = .ok (.getfield 60, 3) := by decide +kernel
theorem dX10_beginWithSpareLand_41 : decode cX10_beginWithSpareLand 41 = .ok (.aload_n 1, 1) := by decide +kernel
theorem dX10_beginWithSpareLand_42 : decode cX10_beginWithSpareLand 42 = .ok (.invokevirtual 347, 3) := by decide +kernel
theorem dX10_beginWithSpareLand_45 : decode cX10_beginWithSpareLand 45 = .ok (.aload_n 0, 1) := by decide +kernel
theorem dX10_beginWithSpareLand_46 : decode cX10_beginWithSpareLand 46 = .ok (.getfield 86, 3) := by decide +kernel
theorem dX10_beginWithSpareLand_49 : decode cX10_beginWithSpareLand 49 = .ok (.invokevirtual 351, 3) := by decide +kernel
theorem dX10_beginWithSpareLand_52 : decode cX10_beginWithSpareLand 52 = .ok (.aload_n 0, 1) := by decide +kernel
theorem dX10_beginWithSpareLand_53 : decode cX10_beginWithSpareLand 53 = .ok (.iconst 0, 1) := by decide +kernel
theorem dX10_beginWithSpareLand_54 : decode cX10_beginWithSpareLand 54 = .ok (.putfield 97, 3) := by decide +kernel
theorem dX10_beginWithSpareLand_57 : decode cX10_beginWithSpareLand 57 = .ok (.return_, 1) := by decide +kernel
theorem dX10_lookAhead_0 : decode cX10_lookAhead 0 = .ok (.aload_n 0, 1) := by decide +kernel
theorem dX10_lookAhead_1 : decode cX10_lookAhead 1 = .ok (.getfield 64, 3) := by decide +kernel
theorem dX10_lookAhead_4 : decode cX10_lookAhead 4 = .ok (.aload_n 0, 1) := by decide +kernel
theorem dX10_lookAhead_5 : decode cX10_lookAhead 5 = .ok (.getfield 60, 3) := by decide +kernel
theorem dX10_lookAhead_8 : decode cX10_lookAhead 8 = .ok (.invokevirtual 236, 3) := by decide +kernel
theorem dX10_lookAhead_11 : decode cX10_lookAhead 11 = .ok (.aload_n 0, 1) := by decide +kernel
theorem dX10_lookAhead_12 : decode cX10_lookAhead 12 = .ok (.getfield 72, 3) := by decide +kernel
theorem dX10_lookAhead_15 : decode cX10_lookAhead 15 = .ok (.aload_n 0, 1) := by decide +kernel
theorem dX10_lookAhead_16 : decode cX10_lookAhead 16 = .ok (.getfield 64, 3) := by decide +kernel
theorem dX10_lookAhead_19 : decode cX10_lookAhead 19 = .ok (.iload_n 1, 1) := by decide +kernel
theorem dX10_lookAhead_20 : decode cX10_lookAhead 20 = .ok (.iload_n 2, 1) := by decide +kernel
theorem dX10_lookAhead_21 : decode cX10_lookAhead 21 = .ok (.invokevirtual 228, 3) := by decide +kernel
theorem dX10_lookAhead_24 : decode cX10_lookAhead 24 = .ok (.return_, 1) := by decide +kernel
theorem dX10_fewestWitnesses_0 : decode cX10_fewestWitnesses 0 = .ok (.aload_n 0, 1) := by decide +kernel
theorem dX10_fewestWitnesses_1 : decode cX10_fewestWitnesses 1 = .ok (.getfield 27, 3) := by decide +kernel
theorem dX10_fewestWitnesses_4 : decode cX10_fewestWitnesses 4 = .ok (.getfield 331, 3) := by decide +kernel
theorem dX10_fewestWitnesses_7 : decode cX10_fewestWitnesses 7 = .ok (.istore_n 2, 1) := by decide +kernel
theorem dX10_fewestWitnesses_8 : decode cX10_fewestWitnesses 8 = .ok (.iload_n 2, 1) := by decide +kernel
theorem dX10_fewestWitnesses_9 : decode cX10_fewestWitnesses 9 = .ok (.iconst 4, 1) := by decide +kernel
theorem dX10_fewestWitnesses_10 : decode cX10_fewestWitnesses 10 = .ok (.if_icmp .gt 70, 3) := by decide +kernel
theorem dX10_fewestWitnesses_13 : decode cX10_fewestWitnesses 13 = .ok (.aload_n 0, 1) := by decide +kernel
theorem dX10_fewestWitnesses_14 : decode cX10_fewestWitnesses 14 = .ok (.iload_n 1, 1) := by decide +kernel
theorem dX10_fewestWitnesses_15 : decode cX10_fewestWitnesses 15 = .ok (.iload_n 2, 1) := by decide +kernel
theorem dX10_fewestWitnesses_16 : decode cX10_fewestWitnesses 16 = .ok (.invokevirtual 354, 3) := by decide +kernel
theorem dX10_fewestWitnesses_19 : decode cX10_fewestWitnesses 19 = .ok (.bipush 127, 2) := by decide +kernel
theorem dX10_fewestWitnesses_21 : decode cX10_fewestWitnesses 21 = .ok (.istore_n 3, 1) := by decide +kernel
theorem dX10_fewestWitnesses_22 : decode cX10_fewestWitnesses 22 = .ok (.iload_n 3, 1) := by decide +kernel
theorem dX10_fewestWitnesses_23 : decode cX10_fewestWitnesses 23 = .ok (.ifCond .le 51, 3) := by decide +kernel
theorem dX10_fewestWitnesses_26 : decode cX10_fewestWitnesses 26 = .ok (.iload_n 3, 1) := by decide +kernel
theorem dX10_fewestWitnesses_27 : decode cX10_fewestWitnesses 27 = .ok (.invokestatic 150, 3) := by decide +kernel
theorem dX10_fewestWitnesses_30 : decode cX10_fewestWitnesses 30 = .ok (.iload_n 2, 1) := by decide +kernel
theorem dX10_fewestWitnesses_31 : decode cX10_fewestWitnesses 31 = .ok (.if_icmp .ne 37, 3) := by decide +kernel
theorem dX10_fewestWitnesses_34 : decode cX10_fewestWitnesses 34 = .ok (.iload_n 3, 1) := by decide +kernel
theorem dX10_fewestWitnesses_35 : decode cX10_fewestWitnesses 35 = .ok (.invokestatic 357, 3) := by decide +kernel
theorem dX10_fewestWitnesses_38 : decode cX10_fewestWitnesses 38 = .ok (.istore 4, 2) := by decide +kernel
theorem dX10_fewestWitnesses_40 : decode cX10_fewestWitnesses 40 = .ok (.iload 4, 2) := by decide +kernel
theorem dX10_fewestWitnesses_42 : decode cX10_fewestWitnesses 42 = .ok (.aload_n 0, 1) := by decide +kernel
theorem dX10_fewestWitnesses_43 : decode cX10_fewestWitnesses 43 = .ok (.getfield 60, 3) := by decide +kernel
theorem dX10_fewestWitnesses_46 : decode cX10_fewestWitnesses 46 = .ok (.getfield 165, 3) := by decide +kernel
theorem dX10_fewestWitnesses_49 : decode cX10_fewestWitnesses 49 = .ok (.iconst (-1), 1) := by decide +kernel
theorem dX10_fewestWitnesses_50 : decode cX10_fewestWitnesses 50 = .ok (.ixor, 1) := by decide +kernel
theorem dX10_fewestWitnesses_51 : decode cX10_fewestWitnesses 51 = .ok (.iand, 1) := by decide +kernel
theorem dX10_fewestWitnesses_52 : decode cX10_fewestWitnesses 52 = .ok (.ifCond .ne 16, 3) := by decide +kernel
theorem dX10_fewestWitnesses_55 : decode cX10_fewestWitnesses 55 = .ok (.aload_n 0, 1) := by decide +kernel
theorem dX10_fewestWitnesses_56 : decode cX10_fewestWitnesses 56 = .ok (.iload 4, 2) := by decide +kernel
theorem dX10_fewestWitnesses_58 : decode cX10_fewestWitnesses 58 = .ok (.iload_n 1, 1) := by decide +kernel
theorem dX10_fewestWitnesses_59 : decode cX10_fewestWitnesses 59 = .ok (.invokevirtual 360, 3) := by decide +kernel
theorem dX10_fewestWitnesses_62 : decode cX10_fewestWitnesses 62 = .ok (.ifCond .eq 6, 3) := by decide +kernel
theorem dX10_fewestWitnesses_65 : decode cX10_fewestWitnesses 65 = .ok (.iload 4, 2) := by decide +kernel
theorem dX10_fewestWitnesses_67 : decode cX10_fewestWitnesses 67 = .ok (.ireturn, 1) := by decide +kernel
theorem dX10_fewestWitnesses_68 : decode cX10_fewestWitnesses 68 = .ok (.iinc 3 (-1), 3) := by decide +kernel
theorem dX10_fewestWitnesses_71 : decode cX10_fewestWitnesses 71 = .ok (.goto (-49), 3) := by decide +kernel
theorem dX10_fewestWitnesses_74 : decode cX10_fewestWitnesses 74 = .ok (.iinc 2 1, 3) := by decide +kernel
theorem dX10_fewestWitnesses_77 : decode cX10_fewestWitnesses 77 = .ok (.goto (-69), 3) := by decide +kernel
theorem dX10_fewestWitnesses_80 : decode cX10_fewestWitnesses 80 = .ok (.iconst 0, 1) := by decide +kernel
theorem dX10_fewestWitnesses_81 : decode cX10_fewestWitnesses 81 = .ok (.ireturn, 1) := by decide +kernel
theorem dX10_seeWhoWouldSwear_0 : decode cX10_seeWhoWouldSwear 0 = .ok (.aload_n 0, 1) := by decide +kernel
theorem dX10_seeWhoWouldSwear_1 : decode cX10_seeWhoWouldSwear 1 = .ok (.getfield 64, 3) := by decide +kernel
theorem dX10_seeWhoWouldSwear_4 : decode cX10_seeWhoWouldSwear 4 = .ok (.aload_n 0, 1) := by decide +kernel
theorem dX10_seeWhoWouldSwear_5 : decode cX10_seeWhoWouldSwear 5 = .ok (.getfield 60, 3) := by decide +kernel
theorem dX10_seeWhoWouldSwear_8 : decode cX10_seeWhoWouldSwear 8 = .ok (.invokevirtual 236, 3) := by decide +kernel
theorem dX10_seeWhoWouldSwear_11 : decode cX10_seeWhoWouldSwear 11 = .ok (.iconst 0, 1) := by decide +kernel
theorem dX10_seeWhoWouldSwear_12 : decode cX10_seeWhoWouldSwear 12 = .ok (.istore_n 3, 1) := by decide +kernel
theorem dX10_seeWhoWouldSwear_13 : decode cX10_seeWhoWouldSwear 13 = .ok (.iload_n 3, 1) := by decide +kernel
theorem dX10_seeWhoWouldSwear_14 : decode cX10_seeWhoWouldSwear 14 = .ok (.iload_n 1, 1) := by decide +kernel
theorem dX10_seeWhoWouldSwear_15 : decode cX10_seeWhoWouldSwear 15 = .ok (.if_icmp .gt 55, 3) := by decide +kernel
theorem dX10_seeWhoWouldSwear_18 : decode cX10_seeWhoWouldSwear 18 = .ok (.iload_n 3, 1) := by decide +kernel
theorem dX10_seeWhoWouldSwear_19 : decode cX10_seeWhoWouldSwear 19 = .ok (.aload_n 0, 1) := by decide +kernel
theorem dX10_seeWhoWouldSwear_20 : decode cX10_seeWhoWouldSwear 20 = .ok (.getfield 100, 3) := by decide +kernel
theorem dX10_seeWhoWouldSwear_23 : decode cX10_seeWhoWouldSwear 23 = .ok (.arraylength, 1) := by decide +kernel
theorem dX10_seeWhoWouldSwear_24 : decode cX10_seeWhoWouldSwear 24 = .ok (.if_icmp .ge 46, 3) := by decide +kernel
theorem dX10_seeWhoWouldSwear_27 : decode cX10_seeWhoWouldSwear 27 = .ok (.aload_n 0, 1) := by decide +kernel
theorem dX10_seeWhoWouldSwear_28 : decode cX10_seeWhoWouldSwear 28 = .ok (.getfield 100, 3) := by decide +kernel
theorem dX10_seeWhoWouldSwear_31 : decode cX10_seeWhoWouldSwear 31 = .ok (.iload_n 3, 1) := by decide +kernel
theorem dX10_seeWhoWouldSwear_32 : decode cX10_seeWhoWouldSwear 32 = .ok (.aload_n 0, 1) := by decide +kernel
theorem dX10_seeWhoWouldSwear_33 : decode cX10_seeWhoWouldSwear 33 = .ok (.getfield 72, 3) := by decide +kernel
theorem dX10_seeWhoWouldSwear_36 : decode cX10_seeWhoWouldSwear 36 = .ok (.aload_n 0, 1) := by decide +kernel
theorem dX10_seeWhoWouldSwear_37 : decode cX10_seeWhoWouldSwear 37 = .ok (.getfield 64, 3) := by decide +kernel
theorem dX10_seeWhoWouldSwear_40 : decode cX10_seeWhoWouldSwear 40 = .ok (.aload_n 0, 1) := by decide +kernel
theorem dX10_seeWhoWouldSwear_41 : decode cX10_seeWhoWouldSwear 41 = .ok (.getfield 60, 3) := by decide +kernel
theorem dX10_seeWhoWouldSwear_44 : decode cX10_seeWhoWouldSwear 44 = .ok (.getfield 165, 3) := by decide +kernel
theorem dX10_seeWhoWouldSwear_47 : decode cX10_seeWhoWouldSwear 47 = .ok (.iload_n 3, 1) := by decide +kernel
theorem dX10_seeWhoWouldSwear_48 : decode cX10_seeWhoWouldSwear 48 = .ok (.iload_n 2, 1) := by decide +kernel
theorem dX10_seeWhoWouldSwear_49 : decode cX10_seeWhoWouldSwear 49 = .ok (.invokevirtual 364, 3) := by decide +kernel
theorem dX10_seeWhoWouldSwear_52 : decode cX10_seeWhoWouldSwear 52 = .ok (.iastore, 1) := by decide +kernel
theorem dX10_seeWhoWouldSwear_53 : decode cX10_seeWhoWouldSwear 53 = .ok (.aload_n 0, 1) := by decide +kernel
theorem dX10_seeWhoWouldSwear_54 : decode cX10_seeWhoWouldSwear 54 = .ok (.getfield 72, 3) := by decide +kernel
theorem dX10_seeWhoWouldSwear_57 : decode cX10_seeWhoWouldSwear 57 = .ok (.aload_n 0, 1) := by decide +kernel
theorem dX10_seeWhoWouldSwear_58 : decode cX10_seeWhoWouldSwear 58 = .ok (.getfield 64, 3) := by decide +kernel
theorem dX10_seeWhoWouldSwear_61 : decode cX10_seeWhoWouldSwear 61 = .ok (.invokevirtual 239, 3) := by decide +kernel
theorem dX10_seeWhoWouldSwear_64 : decode cX10_seeWhoWouldSwear 64 = .ok (.iinc 3 1, 3) := by decide +kernel
theorem dX10_seeWhoWouldSwear_67 : decode cX10_seeWhoWouldSwear 67 = .ok (.goto (-54), 3) := by decide +kernel
theorem dX10_seeWhoWouldSwear_70 : decode cX10_seeWhoWouldSwear 70 = .ok (.return_, 1) := by decide +kernel
theorem dX10_coversYears_0 : decode cX10_coversYears 0 = .ok (.iconst 0, 1) := by decide +kernel
theorem dX10_coversYears_1 : decode cX10_coversYears 1 = .ok (.istore_n 3, 1) := by decide +kernel
theorem dX10_coversYears_2 : decode cX10_coversYears 2 = .ok (.iload_n 3, 1) := by decide +kernel
theorem dX10_coversYears_3 : decode cX10_coversYears 3 = .ok (.iload_n 2, 1) := by decide +kernel
theorem dX10_coversYears_4 : decode cX10_coversYears 4 = .ok (.if_icmp .gt 41, 3) := by decide +kernel
theorem dX10_coversYears_7 : decode cX10_coversYears 7 = .ok (.iload_n 3, 1) := by decide +kernel
theorem dX10_coversYears_8 : decode cX10_coversYears 8 = .ok (.aload_n 0, 1) := by decide +kernel
theorem dX10_coversYears_9 : decode cX10_coversYears 9 = .ok (.getfield 100, 3) := by decide +kernel
theorem dX10_coversYears_12 : decode cX10_coversYears 12 = .ok (.arraylength, 1) := by decide +kernel
theorem dX10_coversYears_13 : decode cX10_coversYears 13 = .ok (.if_icmp .ge 32, 3) := by decide +kernel
theorem dX10_coversYears_16 : decode cX10_coversYears 16 = .ok (.aload_n 0, 1) := by decide +kernel
theorem dX10_coversYears_17 : decode cX10_coversYears 17 = .ok (.getfield 100, 3) := by decide +kernel
theorem dX10_coversYears_20 : decode cX10_coversYears 20 = .ok (.iload_n 3, 1) := by decide +kernel
theorem dX10_coversYears_21 : decode cX10_coversYears 21 = .ok (.iaload, 1) := by decide +kernel
theorem dX10_coversYears_22 : decode cX10_coversYears 22 = .ok (.iload_n 1, 1) := by decide +kernel
theorem dX10_coversYears_23 : decode cX10_coversYears 23 = .ok (.iand, 1) := by decide +kernel
theorem dX10_coversYears_24 : decode cX10_coversYears 24 = .ok (.invokestatic 150, 3) := by decide +kernel
theorem dX10_coversYears_27 : decode cX10_coversYears 27 = .ok (.aload_n 0, 1) := by decide +kernel
theorem dX10_coversYears_28 : decode cX10_coversYears 28 = .ok (.getfield 27, 3) := by decide +kernel
theorem dX10_coversYears_31 : decode cX10_coversYears 31 = .ok (.getfield 331, 3) := by decide +kernel
theorem dX10_coversYears_34 : decode cX10_coversYears 34 = .ok (.if_icmp .ge 5, 3) := by decide +kernel
theorem dX10_coversYears_37 : decode cX10_coversYears 37 = .ok (.iconst 0, 1) := by decide +kernel
theorem dX10_coversYears_38 : decode cX10_coversYears 38 = .ok (.ireturn, 1) := by decide +kernel
theorem dX10_coversYears_39 : decode cX10_coversYears 39 = .ok (.iinc 3 1, 3) := by decide +kernel
theorem dX10_coversYears_42 : decode cX10_coversYears 42 = .ok (.goto (-40), 3) := by decide +kernel
theorem dX10_coversYears_45 : decode cX10_coversYears 45 = .ok (.iconst 1, 1) := by decide +kernel
theorem dX10_coversYears_46 : decode cX10_coversYears 46 = .ok (.ireturn, 1) := by decide +kernel
theorem dX10_mirrored_0 : decode cX10_mirrored 0 = .ok (.iconst 0, 1) := by decide +kernel
theorem dX10_mirrored_1 : decode cX10_mirrored 1 = .ok (.istore_n 1, 1) := by decide +kernel
theorem dX10_mirrored_2 : decode cX10_mirrored 2 = .ok (.iconst 0, 1) := by decide +kernel
theorem dX10_mirrored_3 : decode cX10_mirrored 3 = .ok (.istore_n 2, 1) := by decide +kernel
theorem dX10_mirrored_4 : decode cX10_mirrored 4 = .ok (.iload_n 2, 1) := by decide +kernel
theorem dX10_mirrored_5 : decode cX10_mirrored 5 = .ok (.bipush 7, 2) := by decide +kernel
theorem dX10_mirrored_7 : decode cX10_mirrored 7 = .ok (.if_icmp .ge 26, 3) := by decide +kernel
theorem dX10_mirrored_10 : decode cX10_mirrored 10 = .ok (.iload_n 0, 1) := by decide +kernel
theorem dX10_mirrored_11 : decode cX10_mirrored 11 = .ok (.iload_n 2, 1) := by decide +kernel
theorem dX10_mirrored_12 : decode cX10_mirrored 12 = .ok (.ishr, 1) := by decide +kernel
theorem dX10_mirrored_13 : decode cX10_mirrored 13 = .ok (.iconst 1, 1) := by decide +kernel
theorem dX10_mirrored_14 : decode cX10_mirrored 14 = .ok (.iand, 1) := by decide +kernel
theorem dX10_mirrored_15 : decode cX10_mirrored 15 = .ok (.ifCond .eq 12, 3) := by decide +kernel
theorem dX10_mirrored_18 : decode cX10_mirrored 18 = .ok (.iload_n 1, 1) := by decide +kernel
theorem dX10_mirrored_19 : decode cX10_mirrored 19 = .ok (.iconst 1, 1) := by decide +kernel
theorem dX10_mirrored_20 : decode cX10_mirrored 20 = .ok (.bipush 6, 2) := by decide +kernel
theorem dX10_mirrored_22 : decode cX10_mirrored 22 = .ok (.iload_n 2, 1) := by decide +kernel
theorem dX10_mirrored_23 : decode cX10_mirrored 23 = .ok (.isub, 1) := by decide +kernel
theorem dX10_mirrored_24 : decode cX10_mirrored 24 = .ok (.ishl, 1) := by decide +kernel
theorem dX10_mirrored_25 : decode cX10_mirrored 25 = .ok (.ior, 1) := by decide +kernel
theorem dX10_mirrored_26 : decode cX10_mirrored 26 = .ok (.istore_n 1, 1) := by decide +kernel
theorem dX10_mirrored_27 : decode cX10_mirrored 27 = .ok (.iinc 2 1, 3) := by decide +kernel
theorem dX10_mirrored_30 : decode cX10_mirrored 30 = .ok (.goto (-26), 3) := by decide +kernel
theorem dX10_mirrored_33 : decode cX10_mirrored 33 = .ok (.iload_n 1, 1) := by decide +kernel
theorem dX10_mirrored_34 : decode cX10_mirrored 34 = .ok (.ireturn, 1) := by decide +kernel
theorem dX10_bitAt_0 : decode cX10_bitAt 0 = .ok (.iconst 0, 1) := by decide +kernel
theorem dX10_bitAt_1 : decode cX10_bitAt 1 = .ok (.istore_n 2, 1) := by decide +kernel
theorem dX10_bitAt_2 : decode cX10_bitAt 2 = .ok (.iconst 0, 1) := by decide +kernel
theorem dX10_bitAt_3 : decode cX10_bitAt 3 = .ok (.istore_n 3, 1) := by decide +kernel
theorem dX10_bitAt_4 : decode cX10_bitAt 4 = .ok (.iload_n 3, 1) := by decide +kernel
theorem dX10_bitAt_5 : decode cX10_bitAt 5 = .ok (.bipush 20, 2) := by decide +kernel
theorem dX10_bitAt_7 : decode cX10_bitAt 7 = .ok (.if_icmp .ge 27, 3) := by decide +kernel
theorem dX10_bitAt_10 : decode cX10_bitAt 10 = .ok (.iload_n 0, 1) := by decide +kernel
theorem dX10_bitAt_11 : decode cX10_bitAt 11 = .ok (.iload_n 3, 1) := by decide +kernel
theorem dX10_bitAt_12 : decode cX10_bitAt 12 = .ok (.iushr, 1) := by decide +kernel
theorem dX10_bitAt_13 : decode cX10_bitAt 13 = .ok (.iconst 1, 1) := by decide +kernel
theorem dX10_bitAt_14 : decode cX10_bitAt 14 = .ok (.iand, 1) := by decide +kernel
theorem dX10_bitAt_15 : decode cX10_bitAt 15 = .ok (.ifCond .eq 13, 3) := by decide +kernel
theorem dX10_bitAt_18 : decode cX10_bitAt 18 = .ok (.iload_n 2, 1) := by decide +kernel
theorem dX10_bitAt_19 : decode cX10_bitAt 19 = .ok (.iload_n 1, 1) := by decide +kernel
theorem dX10_bitAt_20 : decode cX10_bitAt 20 = .ok (.if_icmp .ne 5, 3) := by decide +kernel
theorem dX10_bitAt_23 : decode cX10_bitAt 23 = .ok (.iload_n 3, 1) := by decide +kernel
theorem dX10_bitAt_24 : decode cX10_bitAt 24 = .ok (.ireturn, 1) := by decide +kernel
theorem dX10_bitAt_25 : decode cX10_bitAt 25 = .ok (.iinc 2 1, 3) := by decide +kernel
theorem dX10_bitAt_28 : decode cX10_bitAt 28 = .ok (.iinc 3 1, 3) := by decide +kernel
theorem dX10_bitAt_31 : decode cX10_bitAt 31 = .ok (.goto (-27), 3) := by decide +kernel
theorem dX10_bitAt_34 : decode cX10_bitAt 34 = .ok (.iconst (-1), 1) := by decide +kernel
theorem dX10_bitAt_35 : decode cX10_bitAt 35 = .ok (.ireturn, 1) := by decide +kernel
theorem dX10_leftBy_0 : decode cX10_leftBy 0 = .ok (.iconst 1, 1) := by decide +kernel
theorem dX10_leftBy_1 : decode cX10_leftBy 1 = .ok (.aload_n 0, 1) := by decide +kernel
theorem dX10_leftBy_2 : decode cX10_leftBy 2 = .ok (.getfield 60, 3) := by decide +kernel
theorem dX10_leftBy_5 : decode cX10_leftBy 5 = .ok (.getfield 212, 3) := by decide +kernel
theorem dX10_leftBy_8 : decode cX10_leftBy 8 = .ok (.ishl, 1) := by decide +kernel
theorem dX10_leftBy_9 : decode cX10_leftBy 9 = .ok (.iconst 1, 1) := by decide +kernel
theorem dX10_leftBy_10 : decode cX10_leftBy 10 = .ok (.isub, 1) := by decide +kernel
theorem dX10_leftBy_11 : decode cX10_leftBy 11 = .ok (.istore_n 2, 1) := by decide +kernel
theorem dX10_leftBy_12 : decode cX10_leftBy 12 = .ok (.iconst 0, 1) := by decide +kernel
theorem dX10_leftBy_13 : decode cX10_leftBy 13 = .ok (.istore_n 3, 1) := by decide +kernel
theorem dX10_leftBy_14 : decode cX10_leftBy 14 = .ok (.iload_n 3, 1) := by decide +kernel
theorem dX10_leftBy_15 : decode cX10_leftBy 15 = .ok (.iload_n 1, 1) := by decide +kernel
theorem dX10_leftBy_16 : decode cX10_leftBy 16 = .ok (.if_icmp .ge 60, 3) := by decide +kernel
theorem dX10_leftBy_19 : decode cX10_leftBy 19 = .ok (.iload_n 3, 1) := by decide +kernel
theorem dX10_leftBy_20 : decode cX10_leftBy 20 = .ok (.aload_n 0, 1) := by decide +kernel
theorem dX10_leftBy_21 : decode cX10_leftBy 21 = .ok (.getfield 90, 3) := by decide +kernel
theorem dX10_leftBy_24 : decode cX10_leftBy 24 = .ok (.arraylength, 1) := by decide +kernel
theorem dX10_leftBy_25 : decode cX10_leftBy 25 = .ok (.if_icmp .ge 51, 3) := by decide +kernel
theorem dX10_leftBy_28 : decode cX10_leftBy 28 = .ok (.aload_n 0, 1) := by decide +kernel
theorem dX10_leftBy_29 : decode cX10_leftBy 29 = .ok (.getfield 72, 3) := by decide +kernel
theorem dX10_leftBy_32 : decode cX10_leftBy 32 = .ok (.aload_n 0, 1) := by decide +kernel
theorem dX10_leftBy_33 : decode cX10_leftBy 33 = .ok (.getfield 60, 3) := by decide +kernel
theorem dX10_leftBy_36 : decode cX10_leftBy 36 = .ok (.aload_n 0, 1) := by decide +kernel
theorem dX10_leftBy_37 : decode cX10_leftBy 37 = .ok (.getfield 90, 3) := by decide +kernel
theorem dX10_leftBy_40 : decode cX10_leftBy 40 = .ok (.iload_n 3, 1) := by decide +kernel
theorem dX10_leftBy_41 : decode cX10_leftBy 41 = .ok (.iaload, 1) := by decide +kernel
theorem dX10_leftBy_42 : decode cX10_leftBy 42 = .ok (.invokevirtual 168, 3) := by decide +kernel
theorem dX10_leftBy_45 : decode cX10_leftBy 45 = .ok (.istore 4, 2) := by decide +kernel
theorem dX10_leftBy_47 : decode cX10_leftBy 47 = .ok (.iload_n 2, 1) := by decide +kernel
theorem dX10_leftBy_48 : decode cX10_leftBy 48 = .ok (.aload_n 0, 1) := by decide +kernel
theorem dX10_leftBy_49 : decode cX10_leftBy 49 = .ok (.getfield 94, 3) := by decide +kernel
theorem dX10_leftBy_52 : decode cX10_leftBy 52 = .ok (.iload_n 3, 1) := by decide +kernel
theorem dX10_leftBy_53 : decode cX10_leftBy 53 = .ok (.ishr, 1) := by decide +kernel
theorem dX10_leftBy_54 : decode cX10_leftBy 54 = .ok (.iconst 1, 1) := by decide +kernel
theorem dX10_leftBy_55 : decode cX10_leftBy 55 = .ok (.iand, 1) := by decide +kernel
theorem dX10_leftBy_56 : decode cX10_leftBy 56 = .ok (.ifCond .eq 8, 3) := by decide +kernel
theorem dX10_leftBy_59 : decode cX10_leftBy 59 = .ok (.iload 4, 2) := by decide +kernel
theorem dX10_leftBy_61 : decode cX10_leftBy 61 = .ok (.goto 7, 3) := by decide +kernel
theorem dX10_leftBy_64 : decode cX10_leftBy 64 = .ok (.iload 4, 2) := by decide +kernel
theorem dX10_leftBy_66 : decode cX10_leftBy 66 = .ok (.iconst (-1), 1) := by decide +kernel
theorem dX10_leftBy_67 : decode cX10_leftBy 67 = .ok (.ixor, 1) := by decide +kernel
theorem dX10_leftBy_68 : decode cX10_leftBy 68 = .ok (.iand, 1) := by decide +kernel
theorem dX10_leftBy_69 : decode cX10_leftBy 69 = .ok (.istore_n 2, 1) := by decide +kernel
theorem dX10_leftBy_70 : decode cX10_leftBy 70 = .ok (.iinc 3 1, 3) := by decide +kernel
theorem dX10_leftBy_73 : decode cX10_leftBy 73 = .ok (.goto (-59), 3) := by decide +kernel
theorem dX10_leftBy_76 : decode cX10_leftBy 76 = .ok (.iload_n 2, 1) := by decide +kernel
theorem dX10_leftBy_77 : decode cX10_leftBy 77 = .ok (.ireturn, 1) := by decide +kernel
theorem dX10_plotsPassed_0 : decode cX10_plotsPassed 0 = .ok (.iconst 0, 1) := by decide +kernel
theorem dX10_plotsPassed_1 : decode cX10_plotsPassed 1 = .ok (.istore_n 1, 1) := by decide +kernel
theorem dX10_plotsPassed_2 : decode cX10_plotsPassed 2 = .ok (.iconst 0, 1) := by decide +kernel
theorem dX10_plotsPassed_3 : decode cX10_plotsPassed 3 = .ok (.istore_n 2, 1) := by decide +kernel
theorem dX10_plotsPassed_4 : decode cX10_plotsPassed 4 = .ok (.iload_n 2, 1) := by decide +kernel
theorem dX10_plotsPassed_5 : decode cX10_plotsPassed 5 = .ok (.aload_n 0, 1) := by decide +kernel
theorem dX10_plotsPassed_6 : decode cX10_plotsPassed 6 = .ok (.getfield 27, 3) := by decide +kernel
theorem dX10_plotsPassed_9 : decode cX10_plotsPassed 9 = .ok (.getfield 242, 3) := by decide +kernel
theorem dX10_plotsPassed_12 : decode cX10_plotsPassed 12 = .ok (.if_icmp .ge 36, 3) := by decide +kernel
theorem dX10_plotsPassed_15 : decode cX10_plotsPassed 15 = .ok (.aload_n 0, 1) := by decide +kernel
theorem dX10_plotsPassed_16 : decode cX10_plotsPassed 16 = .ok (.getfield 72, 3) := by decide +kernel
theorem dX10_plotsPassed_19 : decode cX10_plotsPassed 19 = .ok (.aload_n 0, 1) := by decide +kernel
theorem dX10_plotsPassed_20 : decode cX10_plotsPassed 20 = .ok (.getfield 60, 3) := by decide +kernel
theorem dX10_plotsPassed_23 : decode cX10_plotsPassed 23 = .ok (.iload_n 2, 1) := by decide +kernel
theorem dX10_plotsPassed_24 : decode cX10_plotsPassed 24 = .ok (.invokevirtual 143, 3) := by decide +kernel
theorem dX10_plotsPassed_27 : decode cX10_plotsPassed 27 = .ok (.aload_n 0, 1) := by decide +kernel
theorem dX10_plotsPassed_28 : decode cX10_plotsPassed 28 = .ok (.getfield 27, 3) := by decide +kernel
theorem dX10_plotsPassed_31 : decode cX10_plotsPassed 31 = .ok (.getfield 140, 3) := by decide +kernel
theorem dX10_plotsPassed_34 : decode cX10_plotsPassed 34 = .ok (.iload_n 2, 1) := by decide +kernel
theorem dX10_plotsPassed_35 : decode cX10_plotsPassed 35 = .ok (.iaload, 1) := by decide +kernel
theorem dX10_plotsPassed_36 : decode cX10_plotsPassed 36 = .ok (.if_icmp .eq 6, 3) := by decide +kernel
theorem dX10_plotsPassed_39 : decode cX10_plotsPassed 39 = .ok (.iinc 1 1, 3) := by decide +kernel
theorem dX10_plotsPassed_42 : decode cX10_plotsPassed 42 = .ok (.iinc 2 1, 3) := by decide +kernel
theorem dX10_plotsPassed_45 : decode cX10_plotsPassed 45 = .ok (.goto (-41), 3) := by decide +kernel
theorem dX10_plotsPassed_48 : decode cX10_plotsPassed 48 = .ok (.iload_n 1, 1) := by decide +kernel
theorem dX10_plotsPassed_49 : decode cX10_plotsPassed 49 = .ok (.ireturn, 1) := by decide +kernel
theorem dX10_allSwearing_0 : decode cX10_allSwearing 0 = .ok (.iconst 0, 1) := by decide +kernel
theorem dX10_allSwearing_1 : decode cX10_allSwearing 1 = .ok (.istore_n 1, 1) := by decide +kernel
theorem dX10_allSwearing_2 : decode cX10_allSwearing 2 = .ok (.iconst 0, 1) := by decide +kernel
theorem dX10_allSwearing_3 : decode cX10_allSwearing 3 = .ok (.istore_n 2, 1) := by decide +kernel
theorem dX10_allSwearing_4 : decode cX10_allSwearing 4 = .ok (.iload_n 2, 1) := by decide +kernel
theorem dX10_allSwearing_5 : decode cX10_allSwearing 5 = .ok (.aload_n 0, 1) := by decide +kernel
theorem dX10_allSwearing_6 : decode cX10_allSwearing 6 = .ok (.getfield 60, 3) := by decide +kernel
theorem dX10_allSwearing_9 : decode cX10_allSwearing 9 = .ok (.getfield 212, 3) := by decide +kernel
theorem dX10_allSwearing_12 : decode cX10_allSwearing 12 = .ok (.if_icmp .ge 24, 3) := by decide +kernel
theorem dX10_allSwearing_15 : decode cX10_allSwearing 15 = .ok (.iload_n 1, 1) := by decide +kernel
theorem dX10_allSwearing_16 : decode cX10_allSwearing 16 = .ok (.aload_n 0, 1) := by decide +kernel
theorem dX10_allSwearing_17 : decode cX10_allSwearing 17 = .ok (.getfield 72, 3) := by decide +kernel
theorem dX10_allSwearing_20 : decode cX10_allSwearing 20 = .ok (.aload_n 0, 1) := by decide +kernel
theorem dX10_allSwearing_21 : decode cX10_allSwearing 21 = .ok (.getfield 60, 3) := by decide +kernel
theorem dX10_allSwearing_24 : decode cX10_allSwearing 24 = .ok (.iload_n 2, 1) := by decide +kernel
theorem dX10_allSwearing_25 : decode cX10_allSwearing 25 = .ok (.invokevirtual 306, 3) := by decide +kernel
theorem dX10_allSwearing_28 : decode cX10_allSwearing 28 = .ok (.iadd, 1) := by decide +kernel
theorem dX10_allSwearing_29 : decode cX10_allSwearing 29 = .ok (.istore_n 1, 1) := by decide +kernel
theorem dX10_allSwearing_30 : decode cX10_allSwearing 30 = .ok (.iinc 2 1, 3) := by decide +kernel
theorem dX10_allSwearing_33 : decode cX10_allSwearing 33 = .ok (.goto (-29), 3) := by decide +kernel
theorem dX10_allSwearing_36 : decode cX10_allSwearing 36 = .ok (.iload_n 1, 1) := by decide +kernel
theorem dX10_allSwearing_37 : decode cX10_allSwearing 37 = .ok (.ireturn, 1) := by decide +kernel
