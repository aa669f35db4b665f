theorem dX0_init_0 : decode cX0_init 0 = .ok (.aload_n 0, 1) := by decide +kernel
theorem dX0_init_1 : decode cX0_init 1 = .ok (.invokespecial 3, 3) := by decide +kernel
theorem dX0_init_4 : decode cX0_init 4 = .ok (.aload_n 0, 1) := by decide +kernel
theorem dX0_init_5 : decode cX0_init 5 = .ok (.bipush 31, 2) := by decide +kernel
theorem dX0_init_7 : decode cX0_init 7 = .ok (.newarray .int, 2) := by decide +kernel
theorem dX0_init_9 : decode cX0_init 9 = .ok (.putfield 9, 3) := by decide +kernel
theorem dX0_init_12 : decode cX0_init 12 = .ok (.aload_n 0, 1) := by decide +kernel
theorem dX0_init_13 : decode cX0_init 13 = .ok (.bipush 31, 2) := by decide +kernel
theorem dX0_init_15 : decode cX0_init 15 = .ok (.newarray .int, 2) := by decide +kernel
theorem dX0_init_17 : decode cX0_init 17 = .ok (.putfield 15, 3) := by decide +kernel
theorem dX0_init_20 : decode cX0_init 20 = .ok (.aload_n 0, 1) := by decide +kernel
theorem dX0_init_21 : decode cX0_init 21 = .ok (.bipush 30, 2) := by decide +kernel
theorem dX0_init_23 : decode cX0_init 23 = .ok (.newarray .int, 2) := by decide +kernel
theorem dX0_init_25 : decode cX0_init 25 = .ok (.putfield 18, 3) := by decide +kernel
theorem dX0_init_28 : decode cX0_init 28 = .ok (.aload_n 0, 1) := by decide +kernel
theorem dX0_init_29 : decode cX0_init 29 = .ok (.bipush 30, 2) := by decide +kernel
theorem dX0_init_31 : decode cX0_init 31 = .ok (.newarray .int, 2) := by decide +kernel
theorem dX0_init_33 : decode cX0_init 33 = .ok (.putfield 21, 3) := by decide +kernel
theorem dX0_init_36 : decode cX0_init 36 = .ok (.aload_n 0, 1) := by decide +kernel
theorem dX0_init_37 : decode cX0_init 37 = .ok (.bipush 30, 2) := by decide +kernel
theorem dX0_init_39 : decode cX0_init 39 = .ok (.newarray .int, 2) := by decide +kernel
theorem dX0_init_41 : decode cX0_init 41 = .ok (.putfield 24, 3) := by decide +kernel
theorem dX0_init_44 : decode cX0_init 44 = .ok (.aload_n 0, 1) := by decide +kernel
theorem dX0_init_45 : decode cX0_init 45 = .ok (.bipush 15, 2) := by decide +kernel
theorem dX0_init_47 : decode cX0_init 47 = .ok (.newarray .int, 2) := by decide +kernel
theorem dX0_init_49 : decode cX0_init 49 = .ok (.putfield 27, 3) := by decide +kernel
theorem dX0_init_52 : decode cX0_init 52 = .ok (.aload_n 0, 1) := by decide +kernel
theorem dX0_init_53 : decode cX0_init 53 = .ok (.bipush 31, 2) := by decide +kernel
theorem dX0_init_55 : decode cX0_init 55 = .ok (.newarray .int, 2) := by decide +kernel
theorem dX0_init_57 : decode cX0_init 57 = .ok (.putfield 30, 3) := by decide +kernel
theorem dX0_init_60 : decode cX0_init 60 = .ok (.aload_n 0, 1) := by decide +kernel
theorem dX0_init_61 : decode cX0_init 61 = .ok (.bipush 31, 2) := by decide +kernel
theorem dX0_init_63 : decode cX0_init 63 = .ok (.newarray .int, 2) := by decide +kernel
theorem dX0_init_65 : decode cX0_init 65 = .ok (.putfield 33, 3) := by decide +kernel
theorem dX0_init_68 : decode cX0_init 68 = .ok (.aload_n 0, 1) := by decide +kernel
theorem dX0_init_69 : decode cX0_init 69 = .ok (.bipush 31, 2) := by decide +kernel
theorem dX0_init_71 : decode cX0_init 71 = .ok (.newarray .int, 2) := by decide +kernel
theorem dX0_init_73 : decode cX0_init 73 = .ok (.putfield 36, 3) := by decide +kernel
theorem dX0_init_76 : decode cX0_init 76 = .ok (.return_, 1) := by decide +kernel
theorem dX0_workOut_0 : decode cX0_workOut 0 = .ok (.aload_n 0, 1) := by decide +kernel
theorem dX0_workOut_1 : decode cX0_workOut 1 = .ok (.aload_n 1, 1) := by decide +kernel
theorem dX0_workOut_2 : decode cX0_workOut 2 = .ok (.invokevirtual 39, 3) := by decide +kernel
theorem dX0_workOut_5 : decode cX0_workOut 5 = .ok (.aload_n 0, 1) := by decide +kernel
theorem dX0_workOut_6 : decode cX0_workOut 6 = .ok (.iconst 0, 1) := by decide +kernel
theorem dX0_workOut_7 : decode cX0_workOut 7 = .ok (.putfield 43, 3) := by decide +kernel
theorem dX0_workOut_10 : decode cX0_workOut 10 = .ok (.aload_n 0, 1) := by decide +kernel
theorem dX0_workOut_11 : decode cX0_workOut 11 = .ok (.iconst 0, 1) := by decide +kernel
theorem dX0_workOut_12 : decode cX0_workOut 12 = .ok (.putfield 47, 3) := by decide +kernel
theorem dX0_workOut_15 : decode cX0_workOut 15 = .ok (.aload_n 0, 1) := by decide +kernel
theorem dX0_workOut_16 : decode cX0_workOut 16 = .ok (.iconst 0, 1) := by decide +kernel
theorem dX0_workOut_17 : decode cX0_workOut 17 = .ok (.putfield 50, 3) := by decide +kernel
theorem dX0_workOut_20 : decode cX0_workOut 20 = .ok (.iconst 0, 1) := by decide +kernel
theorem dX0_workOut_21 : decode cX0_workOut 21 = .ok (.istore_n 2, 1) := by decide +kernel
theorem dX0_workOut_22 : decode cX0_workOut 22 = .ok (.iload_n 2, 1) := by decide +kernel
theorem dX0_workOut_23 : decode cX0_workOut 23 = .ok (.aload_n 0, 1) := by decide +kernel
theorem dX0_workOut_24 : decode cX0_workOut 24 = .ok (.getfield 53, 3) := by decide +kernel
theorem dX0_workOut_27 : decode cX0_workOut 27 = .ok (.if_icmp .ge 87, 3) := by decide +kernel
theorem dX0_workOut_30 : decode cX0_workOut 30 = .ok (.iload_n 2, 1) := by decide +kernel
theorem dX0_workOut_31 : decode cX0_workOut 31 = .ok (.bipush 30, 2) := by decide +kernel
theorem dX0_workOut_33 : decode cX0_workOut 33 = .ok (.if_icmp .ge 81, 3) := by decide +kernel
theorem dX0_workOut_36 : decode cX0_workOut 36 = .ok (.aload_n 0, 1) := by decide +kernel
theorem dX0_workOut_37 : decode cX0_workOut 37 = .ok (.getfield 9, 3) := by decide +kernel
theorem dX0_workOut_40 : decode cX0_workOut 40 = .ok (.iload_n 2, 1) := by decide +kernel
theorem dX0_workOut_41 : decode cX0_workOut 41 = .ok (.iaload, 1) := by decide +kernel
theorem dX0_workOut_42 : decode cX0_workOut 42 = .ok (.istore_n 3, 1) := by decide +kernel
theorem dX0_workOut_43 : decode cX0_workOut 43 = .ok (.aload_n 0, 1) := by decide +kernel
theorem dX0_workOut_44 : decode cX0_workOut 44 = .ok (.aload_n 1, 1) := by decide +kernel
theorem dX0_workOut_45 : decode cX0_workOut 45 = .ok (.iload_n 3, 1) := by decide +kernel
theorem dX0_workOut_46 : decode cX0_workOut 46 = .ok (.aload_n 0, 1) := by decide +kernel
theorem dX0_workOut_47 : decode cX0_workOut 47 = .ok (.getfield 9, 3) := by decide +kernel
theorem dX0_workOut_50 : decode cX0_workOut 50 = .ok (.iload_n 2, 1) := by decide +kernel
theorem dX0_workOut_51 : decode cX0_workOut 51 = .ok (.iconst 1, 1) := by decide +kernel
theorem dX0_workOut_52 : decode cX0_workOut 52 = .ok (.iadd, 1) := by decide +kernel
theorem dX0_workOut_53 : decode cX0_workOut 53 = .ok (.iaload, 1) := by decide +kernel
theorem dX0_workOut_54 : decode cX0_workOut 54 = .ok (.iconst (-1), 1) := by decide +kernel
theorem dX0_workOut_55 : decode cX0_workOut 55 = .ok (.invokevirtual 56, 3) := by decide +kernel
theorem dX0_workOut_58 : decode cX0_workOut 58 = .ok (.aload_n 0, 1) := by decide +kernel
theorem dX0_workOut_59 : decode cX0_workOut 59 = .ok (.getfield 18, 3) := by decide +kernel
theorem dX0_workOut_62 : decode cX0_workOut 62 = .ok (.iload_n 2, 1) := by decide +kernel
theorem dX0_workOut_63 : decode cX0_workOut 63 = .ok (.aload_n 0, 1) := by decide +kernel
theorem dX0_workOut_64 : decode cX0_workOut 64 = .ok (.getfield 33, 3) := by decide +kernel
theorem dX0_workOut_67 : decode cX0_workOut 67 = .ok (.iload_n 3, 1) := by decide +kernel
theorem dX0_workOut_68 : decode cX0_workOut 68 = .ok (.invokestatic 60, 3) := by decide +kernel
theorem dX0_workOut_71 : decode cX0_workOut 71 = .ok (.invokestatic 64, 3) := by decide +kernel
theorem dX0_workOut_74 : decode cX0_workOut 74 = .ok (.iastore, 1) := by decide +kernel
theorem dX0_workOut_75 : decode cX0_workOut 75 = .ok (.aload_n 0, 1) := by decide +kernel
theorem dX0_workOut_76 : decode cX0_workOut 76 = .ok (.dup, 1) := by decide +kernel
theorem dX0_workOut_77 : decode cX0_workOut 77 = .ok (.getfield 47, 3) := by decide +kernel
theorem dX0_workOut_80 : decode cX0_workOut 80 = .ok (.aload_n 0, 1) := by decide +kernel
theorem dX0_workOut_81 : decode cX0_workOut 81 = .ok (.getfield 18, 3) := by decide +kernel
theorem dX0_workOut_84 : decode cX0_workOut 84 = .ok (.iload_n 2, 1) := by decide +kernel
theorem dX0_workOut_85 : decode cX0_workOut 85 = .ok (.iaload, 1) := by decide +kernel
theorem dX0_workOut_86 : decode cX0_workOut 86 = .ok (.iadd, 1) := by decide +kernel
theorem dX0_workOut_87 : decode cX0_workOut 87 = .ok (.putfield 47, 3) := by decide +kernel
theorem dX0_workOut_90 : decode cX0_workOut 90 = .ok (.aload_n 0, 1) := by decide +kernel
theorem dX0_workOut_91 : decode cX0_workOut 91 = .ok (.aload_n 1, 1) := by decide +kernel
theorem dX0_workOut_92 : decode cX0_workOut 92 = .ok (.iload_n 3, 1) := by decide +kernel
theorem dX0_workOut_93 : decode cX0_workOut 93 = .ok (.invokevirtual 68, 3) := by decide +kernel
theorem dX0_workOut_96 : decode cX0_workOut 96 = .ok (.aload_n 0, 1) := by decide +kernel
theorem dX0_workOut_97 : decode cX0_workOut 97 = .ok (.getfield 15, 3) := by decide +kernel
theorem dX0_workOut_100 : decode cX0_workOut 100 = .ok (.iload_n 2, 1) := by decide +kernel
theorem dX0_workOut_101 : decode cX0_workOut 101 = .ok (.iconst 1, 1) := by decide +kernel
theorem dX0_workOut_102 : decode cX0_workOut 102 = .ok (.iadd, 1) := by decide +kernel
theorem dX0_workOut_103 : decode cX0_workOut 103 = .ok (.aload_n 0, 1) := by decide +kernel
theorem dX0_workOut_104 : decode cX0_workOut 104 = .ok (.getfield 43, 3) := by decide +kernel
theorem dX0_workOut_107 : decode cX0_workOut 107 = .ok (.iastore, 1) := by decide +kernel
theorem dX0_workOut_108 : decode cX0_workOut 108 = .ok (.iinc 2 1, 3) := by decide +kernel
theorem dX0_workOut_111 : decode cX0_workOut 111 = .ok (.goto (-89), 3) := by decide +kernel
theorem dX0_workOut_114 : decode cX0_workOut 114 = .ok (.return_, 1) := by decide +kernel
theorem dX0_findTrains_0 : decode cX0_findTrains 0 = .ok (.aload_n 0, 1) := by decide +kernel
theorem dX0_findTrains_1 : decode cX0_findTrains 1 = .ok (.iconst 0, 1) := by decide +kernel
theorem dX0_findTrains_2 : decode cX0_findTrains 2 = .ok (.putfield 53, 3) := by decide +kernel
theorem dX0_findTrains_5 : decode cX0_findTrains 5 = .ok (.iconst 0, 1) := by decide +kernel
theorem dX0_findTrains_6 : decode cX0_findTrains 6 = .ok (.istore_n 2, 1) := by decide +kernel
theorem dX0_findTrains_7 : decode cX0_findTrains 7 = .ok (.iload_n 2, 1) := by decide +kernel
theorem dX0_findTrains_8 : decode cX0_findTrains 8 = .ok (.aload_n 1, 1) := by decide +kernel
theorem dX0_findTrains_9 : decode cX0_findTrains 9 = .ok (.getfield 72, 3) := by decide +kernel
theorem dX0_findTrains_12 : decode cX0_findTrains 12 = .ok (.if_icmp .ge 71, 3) := by decide +kernel
theorem dX0_findTrains_15 : decode cX0_findTrains 15 = .ok (.iload_n 2, 1) := by decide +kernel
theorem dX0_findTrains_16 : decode cX0_findTrains 16 = .ok (.bipush 30, 2) := by decide +kernel
theorem dX0_findTrains_18 : decode cX0_findTrains 18 = .ok (.if_icmp .ge 65, 3) := by decide +kernel
theorem dX0_findTrains_21 : decode cX0_findTrains 21 = .ok (.aload_n 1, 1) := by decide +kernel
theorem dX0_findTrains_22 : decode cX0_findTrains 22 = .ok (.iload_n 2, 1) := by decide +kernel
theorem dX0_findTrains_23 : decode cX0_findTrains 23 = .ok (.invokevirtual 77, 3) := by decide +kernel
theorem dX0_findTrains_26 : decode cX0_findTrains 26 = .ok (.ifCond .eq 32, 3) := by decide +kernel
theorem dX0_findTrains_29 : decode cX0_findTrains 29 = .ok (.aload_n 0, 1) := by decide +kernel
theorem dX0_findTrains_30 : decode cX0_findTrains 30 = .ok (.getfield 53, 3) := by decide +kernel
theorem dX0_findTrains_33 : decode cX0_findTrains 33 = .ok (.bipush 30, 2) := by decide +kernel
theorem dX0_findTrains_35 : decode cX0_findTrains 35 = .ok (.if_icmp .ge 23, 3) := by decide +kernel
theorem dX0_findTrains_38 : decode cX0_findTrains 38 = .ok (.aload_n 0, 1) := by decide +kernel
theorem dX0_findTrains_39 : decode cX0_findTrains 39 = .ok (.getfield 9, 3) := by decide +kernel
theorem dX0_findTrains_42 : decode cX0_findTrains 42 = .ok (.aload_n 0, 1) := by decide +kernel
theorem dX0_findTrains_43 : decode cX0_findTrains 43 = .ok (.getfield 53, 3) := by decide +kernel
theorem dX0_findTrains_46 : decode cX0_findTrains 46 = .ok (.iload_n 2, 1) := by decide +kernel
theorem dX0_findTrains_47 : decode cX0_findTrains 47 = .ok (.iastore, 1) := by decide +kernel
theorem dX0_findTrains_48 : decode cX0_findTrains 48 = .ok (.aload_n 0, 1) := by decide +kernel
theorem dX0_findTrains_49 : decode cX0_findTrains 49 = .ok (.dup, 1) := by decide +kernel
theorem dX0_findTrains_50 : decode cX0_findTrains 50 = .ok (.getfield 53, 3) := by decide +kernel
theorem dX0_findTrains_53 : decode cX0_findTrains 53 = .ok (.iconst 1, 1) := by decide +kernel
theorem dX0_findTrains_54 : decode cX0_findTrains 54 = .ok (.iadd, 1) := by decide +kernel
theorem dX0_findTrains_55 : decode cX0_findTrains 55 = .ok (.putfield 53, 3) := by decide +kernel
theorem dX0_findTrains_58 : decode cX0_findTrains 58 = .ok (.aload_n 0, 1) := by decide +kernel
theorem dX0_findTrains_59 : decode cX0_findTrains 59 = .ok (.getfield 21, 3) := by decide +kernel
theorem dX0_findTrains_62 : decode cX0_findTrains 62 = .ok (.iload_n 2, 1) := by decide +kernel
theorem dX0_findTrains_63 : decode cX0_findTrains 63 = .ok (.aload_n 0, 1) := by decide +kernel
theorem dX0_findTrains_64 : decode cX0_findTrains 64 = .ok (.getfield 53, 3) := by decide +kernel
theorem dX0_findTrains_67 : decode cX0_findTrains 67 = .ok (.iconst 1, 1) := by decide +kernel
theorem dX0_findTrains_68 : decode cX0_findTrains 68 = .ok (.isub, 1) := by decide +kernel
theorem dX0_findTrains_69 : decode cX0_findTrains 69 = .ok (.iastore, 1) := by decide +kernel
theorem dX0_findTrains_70 : decode cX0_findTrains 70 = .ok (.aload_n 0, 1) := by decide +kernel
theorem dX0_findTrains_71 : decode cX0_findTrains 71 = .ok (.getfield 24, 3) := by decide +kernel
theorem dX0_findTrains_74 : decode cX0_findTrains 74 = .ok (.iload_n 2, 1) := by decide +kernel
theorem dX0_findTrains_75 : decode cX0_findTrains 75 = .ok (.iconst (-1), 1) := by decide +kernel
theorem dX0_findTrains_76 : decode cX0_findTrains 76 = .ok (.iastore, 1) := by decide +kernel
theorem dX0_findTrains_77 : decode cX0_findTrains 77 = .ok (.iinc 2 1, 3) := by decide +kernel
theorem dX0_findTrains_80 : decode cX0_findTrains 80 = .ok (.goto (-73), 3) := by decide +kernel
theorem dX0_findTrains_83 : decode cX0_findTrains 83 = .ok (.aload_n 0, 1) := by decide +kernel
theorem dX0_findTrains_84 : decode cX0_findTrains 84 = .ok (.getfield 53, 3) := by decide +kernel
theorem dX0_findTrains_87 : decode cX0_findTrains 87 = .ok (.bipush 30, 2) := by decide +kernel
theorem dX0_findTrains_89 : decode cX0_findTrains 89 = .ok (.if_icmp .gt 16, 3) := by decide +kernel
theorem dX0_findTrains_92 : decode cX0_findTrains 92 = .ok (.aload_n 0, 1) := by decide +kernel
theorem dX0_findTrains_93 : decode cX0_findTrains 93 = .ok (.getfield 9, 3) := by decide +kernel
theorem dX0_findTrains_96 : decode cX0_findTrains 96 = .ok (.aload_n 0, 1) := by decide +kernel
theorem dX0_findTrains_97 : decode cX0_findTrains 97 = .ok (.getfield 53, 3) := by decide +kernel
theorem dX0_findTrains_100 : decode cX0_findTrains 100 = .ok (.aload_n 1, 1) := by decide +kernel
theorem dX0_findTrains_101 : decode cX0_findTrains 101 = .ok (.getfield 72, 3) := by decide +kernel
theorem dX0_findTrains_104 : decode cX0_findTrains 104 = .ok (.iastore, 1) := by decide +kernel
theorem dX0_findTrains_105 : decode cX0_findTrains 105 = .ok (.return_, 1) := by decide +kernel
theorem dX0_findValues_0 : decode cX0_findValues 0 = .ok (.aload_n 1, 1) := by decide +kernel
theorem dX0_findValues_1 : decode cX0_findValues 1 = .ok (.getfield 81, 3) := by decide +kernel
theorem dX0_findValues_4 : decode cX0_findValues 4 = .ok (.iconst 1, 1) := by decide +kernel
theorem dX0_findValues_5 : decode cX0_findValues 5 = .ok (.invokestatic 60, 3) := by decide +kernel
theorem dX0_findValues_8 : decode cX0_findValues 8 = .ok (.istore 5, 2) := by decide +kernel
theorem dX0_findValues_10 : decode cX0_findValues 10 = .ok (.iload_n 3, 1) := by decide +kernel
theorem dX0_findValues_11 : decode cX0_findValues 11 = .ok (.bipush 30, 2) := by decide +kernel
theorem dX0_findValues_13 : decode cX0_findValues 13 = .ok (.invokestatic 84, 3) := by decide +kernel
theorem dX0_findValues_16 : decode cX0_findValues 16 = .ok (.istore 6, 2) := by decide +kernel
theorem dX0_findValues_18 : decode cX0_findValues 18 = .ok (.iload 6, 2) := by decide +kernel
theorem dX0_findValues_20 : decode cX0_findValues 20 = .ok (.iload_n 2, 1) := by decide +kernel
theorem dX0_findValues_21 : decode cX0_findValues 21 = .ok (.if_icmp .lt 105, 3) := by decide +kernel
theorem dX0_findValues_24 : decode cX0_findValues 24 = .ok (.iload 6, 2) := by decide +kernel
theorem dX0_findValues_26 : decode cX0_findValues 26 = .ok (.ifCond .lt 100, 3) := by decide +kernel
theorem dX0_findValues_29 : decode cX0_findValues 29 = .ok (.iload 6, 2) := by decide +kernel
theorem dX0_findValues_31 : decode cX0_findValues 31 = .ok (.iconst 1, 1) := by decide +kernel
theorem dX0_findValues_32 : decode cX0_findValues 32 = .ok (.iadd, 1) := by decide +kernel
theorem dX0_findValues_33 : decode cX0_findValues 33 = .ok (.iload_n 3, 1) := by decide +kernel
theorem dX0_findValues_34 : decode cX0_findValues 34 = .ok (.if_icmp .ge 23, 3) := by decide +kernel
theorem dX0_findValues_37 : decode cX0_findValues 37 = .ok (.iload 6, 2) := by decide +kernel
theorem dX0_findValues_39 : decode cX0_findValues 39 = .ok (.iload 4, 2) := by decide +kernel
theorem dX0_findValues_41 : decode cX0_findValues 41 = .ok (.if_icmp .eq 16, 3) := by decide +kernel
theorem dX0_findValues_44 : decode cX0_findValues 44 = .ok (.iload 6, 2) := by decide +kernel
theorem dX0_findValues_46 : decode cX0_findValues 46 = .ok (.iconst 1, 1) := by decide +kernel
theorem dX0_findValues_47 : decode cX0_findValues 47 = .ok (.iadd, 1) := by decide +kernel
theorem dX0_findValues_48 : decode cX0_findValues 48 = .ok (.iload 4, 2) := by decide +kernel
theorem dX0_findValues_50 : decode cX0_findValues 50 = .ok (.if_icmp .eq 7, 3) := by decide +kernel
theorem dX0_findValues_53 : decode cX0_findValues 53 = .ok (.iconst 1, 1) := by decide +kernel
theorem dX0_findValues_54 : decode cX0_findValues 54 = .ok (.goto 4, 3) := by decide +kernel
theorem dX0_findValues_57 : decode cX0_findValues 57 = .ok (.iconst 0, 1) := by decide +kernel
theorem dX0_findValues_58 : decode cX0_findValues 58 = .ok (.istore 7, 2) := by decide +kernel
theorem dX0_findValues_60 : decode cX0_findValues 60 = .ok (.aload_n 0, 1) := by decide +kernel
theorem dX0_findValues_61 : decode cX0_findValues 61 = .ok (.getfield 30, 3) := by decide +kernel
theorem dX0_findValues_64 : decode cX0_findValues 64 = .ok (.iload 6, 2) := by decide +kernel
theorem dX0_findValues_66 : decode cX0_findValues 66 = .ok (.iload 7, 2) := by decide +kernel
theorem dX0_findValues_68 : decode cX0_findValues 68 = .ok (.ifCond .eq 29, 3) := by decide +kernel
theorem dX0_findValues_71 : decode cX0_findValues 71 = .ok (.bipush 100, 2) := by decide +kernel
theorem dX0_findValues_73 : decode cX0_findValues 73 = .ok (.aload_n 1, 1) := by decide +kernel
theorem dX0_findValues_74 : decode cX0_findValues 74 = .ok (.iload 6, 2) := by decide +kernel
theorem dX0_findValues_76 : decode cX0_findValues 76 = .ok (.invokevirtual 90, 3) := by decide +kernel
theorem dX0_findValues_79 : decode cX0_findValues 79 = .ok (.imul, 1) := by decide +kernel
theorem dX0_findValues_80 : decode cX0_findValues 80 = .ok (.iconst 1, 1) := by decide +kernel
theorem dX0_findValues_81 : decode cX0_findValues 81 = .ok (.isub, 1) := by decide +kernel
theorem dX0_findValues_82 : decode cX0_findValues 82 = .ok (.aload_n 0, 1) := by decide +kernel
theorem dX0_findValues_83 : decode cX0_findValues 83 = .ok (.getfield 33, 3) := by decide +kernel
theorem dX0_findValues_86 : decode cX0_findValues 86 = .ok (.iload 6, 2) := by decide +kernel
theorem dX0_findValues_88 : decode cX0_findValues 88 = .ok (.iconst 2, 1) := by decide +kernel
theorem dX0_findValues_89 : decode cX0_findValues 89 = .ok (.iadd, 1) := by decide +kernel
theorem dX0_findValues_90 : decode cX0_findValues 90 = .ok (.invokestatic 60, 3) := by decide +kernel
theorem dX0_findValues_93 : decode cX0_findValues 93 = .ok (.iadd, 1) := by decide +kernel
theorem dX0_findValues_94 : decode cX0_findValues 94 = .ok (.goto 5, 3) := by decide +kernel
theorem dX0_findValues_97 : decode cX0_findValues 97 = .ok (.ldc 93, 2) := by decide +kernel
theorem dX0_findValues_99 : decode cX0_findValues 99 = .ok (.iastore, 1) := by decide +kernel
theorem dX0_findValues_100 : decode cX0_findValues 100 = .ok (.aload_n 0, 1) := by decide +kernel
theorem dX0_findValues_101 : decode cX0_findValues 101 = .ok (.aload_n 1, 1) := by decide +kernel
theorem dX0_findValues_102 : decode cX0_findValues 102 = .ok (.iload 6, 2) := by decide +kernel
theorem dX0_findValues_104 : decode cX0_findValues 104 = .ok (.iload_n 3, 1) := by decide +kernel
theorem dX0_findValues_105 : decode cX0_findValues 105 = .ok (.iload 6, 2) := by decide +kernel
theorem dX0_findValues_107 : decode cX0_findValues 107 = .ok (.iload_n 2, 1) := by decide +kernel
theorem dX0_findValues_108 : decode cX0_findValues 108 = .ok (.if_icmp .ne 7, 3) := by decide +kernel
theorem dX0_findValues_111 : decode cX0_findValues 111 = .ok (.iconst 0, 1) := by decide +kernel
theorem dX0_findValues_112 : decode cX0_findValues 112 = .ok (.goto 5, 3) := by decide +kernel
theorem dX0_findValues_115 : decode cX0_findValues 115 = .ok (.iload 5, 2) := by decide +kernel
theorem dX0_findValues_117 : decode cX0_findValues 117 = .ok (.invokevirtual 94, 3) := by decide +kernel
theorem dX0_findValues_120 : decode cX0_findValues 120 = .ok (.iinc 6 (-1), 3) := by decide +kernel
theorem dX0_findValues_123 : decode cX0_findValues 123 = .ok (.goto (-105), 3) := by decide +kernel
theorem dX0_findValues_126 : decode cX0_findValues 126 = .ok (.return_, 1) := by decide +kernel
theorem dX0_chooseCar_0 : decode cX0_chooseCar 0 = .ok (.aload_n 1, 1) := by decide +kernel
theorem dX0_chooseCar_1 : decode cX0_chooseCar 1 = .ok (.getfield 81, 3) := by decide +kernel
theorem dX0_chooseCar_4 : decode cX0_chooseCar 4 = .ok (.iconst 2, 1) := by decide +kernel
theorem dX0_chooseCar_5 : decode cX0_chooseCar 5 = .ok (.invokestatic 60, 3) := by decide +kernel
theorem dX0_chooseCar_8 : decode cX0_chooseCar 8 = .ok (.istore 5, 2) := by decide +kernel
theorem dX0_chooseCar_10 : decode cX0_chooseCar 10 = .ok (.bipush 100, 2) := by decide +kernel
theorem dX0_chooseCar_12 : decode cX0_chooseCar 12 = .ok (.iload 5, 2) := by decide +kernel
theorem dX0_chooseCar_14 : decode cX0_chooseCar 14 = .ok (.imul, 1) := by decide +kernel
theorem dX0_chooseCar_15 : decode cX0_chooseCar 15 = .ok (.iload_n 3, 1) := by decide +kernel
theorem dX0_chooseCar_16 : decode cX0_chooseCar 16 = .ok (.iload_n 2, 1) := by decide +kernel
theorem dX0_chooseCar_17 : decode cX0_chooseCar 17 = .ok (.isub, 1) := by decide +kernel
theorem dX0_chooseCar_18 : decode cX0_chooseCar 18 = .ok (.imul, 1) := by decide +kernel
theorem dX0_chooseCar_19 : decode cX0_chooseCar 19 = .ok (.istore 6, 2) := by decide +kernel
theorem dX0_chooseCar_21 : decode cX0_chooseCar 21 = .ok (.iconst (-1), 1) := by decide +kernel
theorem dX0_chooseCar_22 : decode cX0_chooseCar 22 = .ok (.istore 7, 2) := by decide +kernel
theorem dX0_chooseCar_24 : decode cX0_chooseCar 24 = .ok (.iconst 0, 1) := by decide +kernel
theorem dX0_chooseCar_25 : decode cX0_chooseCar 25 = .ok (.istore 8, 2) := by decide +kernel
theorem dX0_chooseCar_27 : decode cX0_chooseCar 27 = .ok (.iload_n 2, 1) := by decide +kernel
theorem dX0_chooseCar_28 : decode cX0_chooseCar 28 = .ok (.istore 9, 2) := by decide +kernel
theorem dX0_chooseCar_30 : decode cX0_chooseCar 30 = .ok (.iload 9, 2) := by decide +kernel
theorem dX0_chooseCar_32 : decode cX0_chooseCar 32 = .ok (.iconst 1, 1) := by decide +kernel
theorem dX0_chooseCar_33 : decode cX0_chooseCar 33 = .ok (.iadd, 1) := by decide +kernel
theorem dX0_chooseCar_34 : decode cX0_chooseCar 34 = .ok (.iload_n 3, 1) := by decide +kernel
theorem dX0_chooseCar_35 : decode cX0_chooseCar 35 = .ok (.if_icmp .ge 76, 3) := by decide +kernel
theorem dX0_chooseCar_38 : decode cX0_chooseCar 38 = .ok (.iload 8, 2) := by decide +kernel
theorem dX0_chooseCar_40 : decode cX0_chooseCar 40 = .ok (.aload_n 1, 1) := by decide +kernel
theorem dX0_chooseCar_41 : decode cX0_chooseCar 41 = .ok (.getfield 97, 3) := by decide +kernel
theorem dX0_chooseCar_44 : decode cX0_chooseCar 44 = .ok (.iload 9, 2) := by decide +kernel
theorem dX0_chooseCar_46 : decode cX0_chooseCar 46 = .ok (.invokestatic 60, 3) := by decide +kernel
theorem dX0_chooseCar_49 : decode cX0_chooseCar 49 = .ok (.iadd, 1) := by decide +kernel
theorem dX0_chooseCar_50 : decode cX0_chooseCar 50 = .ok (.istore 8, 2) := by decide +kernel
theorem dX0_chooseCar_52 : decode cX0_chooseCar 52 = .ok (.iload 5, 2) := by decide +kernel
theorem dX0_chooseCar_54 : decode cX0_chooseCar 54 = .ok (.iload 9, 2) := by decide +kernel
theorem dX0_chooseCar_56 : decode cX0_chooseCar 56 = .ok (.iload_n 2, 1) := by decide +kernel
theorem dX0_chooseCar_57 : decode cX0_chooseCar 57 = .ok (.isub, 1) := by decide +kernel
theorem dX0_chooseCar_58 : decode cX0_chooseCar 58 = .ok (.imul, 1) := by decide +kernel
theorem dX0_chooseCar_59 : decode cX0_chooseCar 59 = .ok (.iconst 2, 1) := by decide +kernel
theorem dX0_chooseCar_60 : decode cX0_chooseCar 60 = .ok (.iload 4, 2) := by decide +kernel
theorem dX0_chooseCar_62 : decode cX0_chooseCar 62 = .ok (.iload 8, 2) := by decide +kernel
theorem dX0_chooseCar_64 : decode cX0_chooseCar 64 = .ok (.isub, 1) := by decide +kernel
theorem dX0_chooseCar_65 : decode cX0_chooseCar 65 = .ok (.iconst 0, 1) := by decide +kernel
theorem dX0_chooseCar_66 : decode cX0_chooseCar 66 = .ok (.invokestatic 100, 3) := by decide +kernel
theorem dX0_chooseCar_69 : decode cX0_chooseCar 69 = .ok (.imul, 1) := by decide +kernel
theorem dX0_chooseCar_70 : decode cX0_chooseCar 70 = .ok (.iadd, 1) := by decide +kernel
theorem dX0_chooseCar_71 : decode cX0_chooseCar 71 = .ok (.istore 10, 2) := by decide +kernel
theorem dX0_chooseCar_73 : decode cX0_chooseCar 73 = .ok (.bipush 100, 2) := by decide +kernel
theorem dX0_chooseCar_75 : decode cX0_chooseCar 75 = .ok (.iload 10, 2) := by decide +kernel
theorem dX0_chooseCar_77 : decode cX0_chooseCar 77 = .ok (.imul, 1) := by decide +kernel
theorem dX0_chooseCar_78 : decode cX0_chooseCar 78 = .ok (.aload_n 0, 1) := by decide +kernel
theorem dX0_chooseCar_79 : decode cX0_chooseCar 79 = .ok (.getfield 30, 3) := by decide +kernel
theorem dX0_chooseCar_82 : decode cX0_chooseCar 82 = .ok (.iload 9, 2) := by decide +kernel
theorem dX0_chooseCar_84 : decode cX0_chooseCar 84 = .ok (.invokestatic 60, 3) := by decide +kernel
theorem dX0_chooseCar_87 : decode cX0_chooseCar 87 = .ok (.iadd, 1) := by decide +kernel
theorem dX0_chooseCar_88 : decode cX0_chooseCar 88 = .ok (.istore 11, 2) := by decide +kernel
theorem dX0_chooseCar_90 : decode cX0_chooseCar 90 = .ok (.iload 11, 2) := by decide +kernel
theorem dX0_chooseCar_92 : decode cX0_chooseCar 92 = .ok (.iload 6, 2) := by decide +kernel
theorem dX0_chooseCar_94 : decode cX0_chooseCar 94 = .ok (.if_icmp .ge 11, 3) := by decide +kernel
theorem dX0_chooseCar_97 : decode cX0_chooseCar 97 = .ok (.iload 11, 2) := by decide +kernel
theorem dX0_chooseCar_99 : decode cX0_chooseCar 99 = .ok (.istore 6, 2) := by decide +kernel
theorem dX0_chooseCar_101 : decode cX0_chooseCar 101 = .ok (.iload 9, 2) := by decide +kernel
theorem dX0_chooseCar_103 : decode cX0_chooseCar 103 = .ok (.istore 7, 2) := by decide +kernel
theorem dX0_chooseCar_105 : decode cX0_chooseCar 105 = .ok (.iinc 9 1, 3) := by decide +kernel
theorem dX0_chooseCar_108 : decode cX0_chooseCar 108 = .ok (.goto (-78), 3) := by decide +kernel
theorem dX0_chooseCar_111 : decode cX0_chooseCar 111 = .ok (.iload_n 2, 1) := by decide +kernel
theorem dX0_chooseCar_112 : decode cX0_chooseCar 112 = .ok (.ifCond .lt 25, 3) := by decide +kernel
theorem dX0_chooseCar_115 : decode cX0_chooseCar 115 = .ok (.iload_n 2, 1) := by decide +kernel
theorem dX0_chooseCar_116 : decode cX0_chooseCar 116 = .ok (.bipush 30, 2) := by decide +kernel
theorem dX0_chooseCar_118 : decode cX0_chooseCar 118 = .ok (.if_icmp .gt 19, 3) := by decide +kernel
theorem dX0_chooseCar_121 : decode cX0_chooseCar 121 = .ok (.aload_n 0, 1) := by decide +kernel
theorem dX0_chooseCar_122 : decode cX0_chooseCar 122 = .ok (.getfield 33, 3) := by decide +kernel
theorem dX0_chooseCar_125 : decode cX0_chooseCar 125 = .ok (.iload_n 2, 1) := by decide +kernel
theorem dX0_chooseCar_126 : decode cX0_chooseCar 126 = .ok (.iload 6, 2) := by decide +kernel
theorem dX0_chooseCar_128 : decode cX0_chooseCar 128 = .ok (.iastore, 1) := by decide +kernel
theorem dX0_chooseCar_129 : decode cX0_chooseCar 129 = .ok (.aload_n 0, 1) := by decide +kernel
theorem dX0_chooseCar_130 : decode cX0_chooseCar 130 = .ok (.getfield 36, 3) := by decide +kernel
theorem dX0_chooseCar_133 : decode cX0_chooseCar 133 = .ok (.iload_n 2, 1) := by decide +kernel
theorem dX0_chooseCar_134 : decode cX0_chooseCar 134 = .ok (.iload 7, 2) := by decide +kernel
theorem dX0_chooseCar_136 : decode cX0_chooseCar 136 = .ok (.iastore, 1) := by decide +kernel
theorem dX0_chooseCar_137 : decode cX0_chooseCar 137 = .ok (.return_, 1) := by decide +kernel
theorem dX0_costOf_0 : decode cX0_costOf 0 = .ok (.iload_n 0, 1) := by decide +kernel
theorem dX0_costOf_1 : decode cX0_costOf 1 = .ok (.bipush 100, 2) := by decide +kernel
theorem dX0_costOf_3 : decode cX0_costOf 3 = .ok (.iadd, 1) := by decide +kernel
theorem dX0_costOf_4 : decode cX0_costOf 4 = .ok (.iconst 1, 1) := by decide +kernel
theorem dX0_costOf_5 : decode cX0_costOf 5 = .ok (.isub, 1) := by decide +kernel
theorem dX0_costOf_6 : decode cX0_costOf 6 = .ok (.bipush 100, 2) := by decide +kernel
theorem dX0_costOf_8 : decode cX0_costOf 8 = .ok (.invokestatic 103, 3) := by decide +kernel
theorem dX0_costOf_11 : decode cX0_costOf 11 = .ok (.ireturn, 1) := by decide +kernel
theorem dX0_takeCars_0 : decode cX0_takeCars 0 = .ok (.aload_n 0, 1) := by decide +kernel
theorem dX0_takeCars_1 : decode cX0_takeCars 1 = .ok (.getfield 36, 3) := by decide +kernel
theorem dX0_takeCars_4 : decode cX0_takeCars 4 = .ok (.iload_n 2, 1) := by decide +kernel
theorem dX0_takeCars_5 : decode cX0_takeCars 5 = .ok (.invokestatic 60, 3) := by decide +kernel
theorem dX0_takeCars_8 : decode cX0_takeCars 8 = .ok (.istore_n 3, 1) := by decide +kernel
theorem dX0_takeCars_9 : decode cX0_takeCars 9 = .ok (.iload_n 3, 1) := by decide +kernel
theorem dX0_takeCars_10 : decode cX0_takeCars 10 = .ok (.iconst (-1), 1) := by decide +kernel
theorem dX0_takeCars_11 : decode cX0_takeCars 11 = .ok (.if_icmp .eq 97, 3) := by decide +kernel
theorem dX0_takeCars_14 : decode cX0_takeCars 14 = .ok (.aload_n 0, 1) := by decide +kernel
theorem dX0_takeCars_15 : decode cX0_takeCars 15 = .ok (.getfield 43, 3) := by decide +kernel
theorem dX0_takeCars_18 : decode cX0_takeCars 18 = .ok (.bipush 15, 2) := by decide +kernel
theorem dX0_takeCars_20 : decode cX0_takeCars 20 = .ok (.if_icmp .ge 88, 3) := by decide +kernel
theorem dX0_takeCars_23 : decode cX0_takeCars 23 = .ok (.iload_n 3, 1) := by decide +kernel
theorem dX0_takeCars_24 : decode cX0_takeCars 24 = .ok (.ifCond .lt 84, 3) := by decide +kernel
theorem dX0_takeCars_27 : decode cX0_takeCars 27 = .ok (.iload_n 3, 1) := by decide +kernel
theorem dX0_takeCars_28 : decode cX0_takeCars 28 = .ok (.iconst 1, 1) := by decide +kernel
theorem dX0_takeCars_29 : decode cX0_takeCars 29 = .ok (.iadd, 1) := by decide +kernel
theorem dX0_takeCars_30 : decode cX0_takeCars 30 = .ok (.bipush 30, 2) := by decide +kernel
theorem dX0_takeCars_32 : decode cX0_takeCars 32 = .ok (.if_icmp .lt 6, 3) := by decide +kernel
theorem dX0_takeCars_35 : decode cX0_takeCars 35 = .ok (.goto 73, 3) := by decide +kernel
theorem dX0_takeCars_38 : decode cX0_takeCars 38 = .ok (.aload_n 0, 1) := by decide +kernel
theorem dX0_takeCars_39 : decode cX0_takeCars 39 = .ok (.getfield 27, 3) := by decide +kernel
theorem dX0_takeCars_42 : decode cX0_takeCars 42 = .ok (.aload_n 0, 1) := by decide +kernel
theorem dX0_takeCars_43 : decode cX0_takeCars 43 = .ok (.getfield 43, 3) := by decide +kernel
theorem dX0_takeCars_46 : decode cX0_takeCars 46 = .ok (.iload_n 3, 1) := by decide +kernel
theorem dX0_takeCars_47 : decode cX0_takeCars 47 = .ok (.iastore, 1) := by decide +kernel
theorem dX0_takeCars_48 : decode cX0_takeCars 48 = .ok (.aload_n 0, 1) := by decide +kernel
theorem dX0_takeCars_49 : decode cX0_takeCars 49 = .ok (.getfield 24, 3) := by decide +kernel
theorem dX0_takeCars_52 : decode cX0_takeCars 52 = .ok (.iload_n 3, 1) := by decide +kernel
theorem dX0_takeCars_53 : decode cX0_takeCars 53 = .ok (.aload_n 0, 1) := by decide +kernel
theorem dX0_takeCars_54 : decode cX0_takeCars 54 = .ok (.getfield 43, 3) := by decide +kernel
theorem dX0_takeCars_57 : decode cX0_takeCars 57 = .ok (.iastore, 1) := by decide +kernel
theorem dX0_takeCars_58 : decode cX0_takeCars 58 = .ok (.aload_n 0, 1) := by decide +kernel
theorem dX0_takeCars_59 : decode cX0_takeCars 59 = .ok (.getfield 24, 3) := by decide +kernel
theorem dX0_takeCars_62 : decode cX0_takeCars 62 = .ok (.iload_n 3, 1) := by decide +kernel
theorem dX0_takeCars_63 : decode cX0_takeCars 63 = .ok (.iconst 1, 1) := by decide +kernel
theorem dX0_takeCars_64 : decode cX0_takeCars 64 = .ok (.iadd, 1) := by decide +kernel
theorem dX0_takeCars_65 : decode cX0_takeCars 65 = .ok (.aload_n 0, 1) := by decide +kernel
theorem dX0_takeCars_66 : decode cX0_takeCars 66 = .ok (.getfield 43, 3) := by decide +kernel
theorem dX0_takeCars_69 : decode cX0_takeCars 69 = .ok (.iastore, 1) := by decide +kernel
theorem dX0_takeCars_70 : decode cX0_takeCars 70 = .ok (.aload_n 0, 1) := by decide +kernel
theorem dX0_takeCars_71 : decode cX0_takeCars 71 = .ok (.dup, 1) := by decide +kernel
theorem dX0_takeCars_72 : decode cX0_takeCars 72 = .ok (.getfield 50, 3) := by decide +kernel
theorem dX0_takeCars_75 : decode cX0_takeCars 75 = .ok (.aload_n 1, 1) := by decide +kernel
theorem dX0_takeCars_76 : decode cX0_takeCars 76 = .ok (.iload_n 3, 1) := by decide +kernel
theorem dX0_takeCars_77 : decode cX0_takeCars 77 = .ok (.invokevirtual 106, 3) := by decide +kernel
theorem dX0_takeCars_80 : decode cX0_takeCars 80 = .ok (.iadd, 1) := by decide +kernel
theorem dX0_takeCars_81 : decode cX0_takeCars 81 = .ok (.putfield 50, 3) := by decide +kernel
theorem dX0_takeCars_84 : decode cX0_takeCars 84 = .ok (.aload_n 0, 1) := by decide +kernel
theorem dX0_takeCars_85 : decode cX0_takeCars 85 = .ok (.dup, 1) := by decide +kernel
theorem dX0_takeCars_86 : decode cX0_takeCars 86 = .ok (.getfield 43, 3) := by decide +kernel
theorem dX0_takeCars_89 : decode cX0_takeCars 89 = .ok (.iconst 1, 1) := by decide +kernel
theorem dX0_takeCars_90 : decode cX0_takeCars 90 = .ok (.iadd, 1) := by decide +kernel
theorem dX0_takeCars_91 : decode cX0_takeCars 91 = .ok (.putfield 43, 3) := by decide +kernel
theorem dX0_takeCars_94 : decode cX0_takeCars 94 = .ok (.aload_n 0, 1) := by decide +kernel
theorem dX0_takeCars_95 : decode cX0_takeCars 95 = .ok (.getfield 36, 3) := by decide +kernel
theorem dX0_takeCars_98 : decode cX0_takeCars 98 = .ok (.iload_n 3, 1) := by decide +kernel
theorem dX0_takeCars_99 : decode cX0_takeCars 99 = .ok (.iconst 2, 1) := by decide +kernel
theorem dX0_takeCars_100 : decode cX0_takeCars 100 = .ok (.iadd, 1) := by decide +kernel
theorem dX0_takeCars_101 : decode cX0_takeCars 101 = .ok (.invokestatic 60, 3) := by decide +kernel
theorem dX0_takeCars_104 : decode cX0_takeCars 104 = .ok (.istore_n 3, 1) := by decide +kernel
theorem dX0_takeCars_105 : decode cX0_takeCars 105 = .ok (.goto (-96), 3) := by decide +kernel
theorem dX0_takeCars_108 : decode cX0_takeCars 108 = .ok (.return_, 1) := by decide +kernel
theorem dX0_axlesOfTrain_0 : decode cX0_axlesOfTrain 0 = .ok (.aload_n 0, 1) := by decide +kernel
theorem dX0_axlesOfTrain_1 : decode cX0_axlesOfTrain 1 = .ok (.getfield 9, 3) := by decide +kernel
theorem dX0_axlesOfTrain_4 : decode cX0_axlesOfTrain 4 = .ok (.iload_n 1, 1) := by decide +kernel
theorem dX0_axlesOfTrain_5 : decode cX0_axlesOfTrain 5 = .ok (.iconst 1, 1) := by decide +kernel
theorem dX0_axlesOfTrain_6 : decode cX0_axlesOfTrain 6 = .ok (.iadd, 1) := by decide +kernel
theorem dX0_axlesOfTrain_7 : decode cX0_axlesOfTrain 7 = .ok (.invokestatic 60, 3) := by decide +kernel
theorem dX0_axlesOfTrain_10 : decode cX0_axlesOfTrain 10 = .ok (.aload_n 0, 1) := by decide +kernel
theorem dX0_axlesOfTrain_11 : decode cX0_axlesOfTrain 11 = .ok (.getfield 9, 3) := by decide +kernel
theorem dX0_axlesOfTrain_14 : decode cX0_axlesOfTrain 14 = .ok (.iload_n 1, 1) := by decide +kernel
theorem dX0_axlesOfTrain_15 : decode cX0_axlesOfTrain 15 = .ok (.invokestatic 60, 3) := by decide +kernel
theorem dX0_axlesOfTrain_18 : decode cX0_axlesOfTrain 18 = .ok (.isub, 1) := by decide +kernel
theorem dX0_axlesOfTrain_19 : decode cX0_axlesOfTrain 19 = .ok (.ireturn, 1) := by decide +kernel
theorem dX0_carsOfTrain_0 : decode cX0_carsOfTrain 0 = .ok (.aload_n 0, 1) := by decide +kernel
theorem dX0_carsOfTrain_1 : decode cX0_carsOfTrain 1 = .ok (.getfield 15, 3) := by decide +kernel
theorem dX0_carsOfTrain_4 : decode cX0_carsOfTrain 4 = .ok (.iload_n 1, 1) := by decide +kernel
theorem dX0_carsOfTrain_5 : decode cX0_carsOfTrain 5 = .ok (.iconst 1, 1) := by decide +kernel
theorem dX0_carsOfTrain_6 : decode cX0_carsOfTrain 6 = .ok (.iadd, 1) := by decide +kernel
theorem dX0_carsOfTrain_7 : decode cX0_carsOfTrain 7 = .ok (.invokestatic 60, 3) := by decide +kernel
theorem dX0_carsOfTrain_10 : decode cX0_carsOfTrain 10 = .ok (.aload_n 0, 1) := by decide +kernel
theorem dX0_carsOfTrain_11 : decode cX0_carsOfTrain 11 = .ok (.getfield 15, 3) := by decide +kernel
theorem dX0_carsOfTrain_14 : decode cX0_carsOfTrain 14 = .ok (.iload_n 1, 1) := by decide +kernel
theorem dX0_carsOfTrain_15 : decode cX0_carsOfTrain 15 = .ok (.invokestatic 60, 3) := by decide +kernel
theorem dX0_carsOfTrain_18 : decode cX0_carsOfTrain 18 = .ok (.isub, 1) := by decide +kernel
theorem dX0_carsOfTrain_19 : decode cX0_carsOfTrain 19 = .ok (.ireturn, 1) := by decide +kernel
theorem dX0_weightOfTrain_0 : decode cX0_weightOfTrain 0 = .ok (.iconst 0, 1) := by decide +kernel
theorem dX0_weightOfTrain_1 : decode cX0_weightOfTrain 1 = .ok (.istore_n 3, 1) := by decide +kernel
theorem dX0_weightOfTrain_2 : decode cX0_weightOfTrain 2 = .ok (.aload_n 0, 1) := by decide +kernel
theorem dX0_weightOfTrain_3 : decode cX0_weightOfTrain 3 = .ok (.getfield 15, 3) := by decide +kernel
theorem dX0_weightOfTrain_6 : decode cX0_weightOfTrain 6 = .ok (.iload_n 2, 1) := by decide +kernel
theorem dX0_weightOfTrain_7 : decode cX0_weightOfTrain 7 = .ok (.invokestatic 60, 3) := by decide +kernel
theorem dX0_weightOfTrain_10 : decode cX0_weightOfTrain 10 = .ok (.istore 4, 2) := by decide +kernel
theorem dX0_weightOfTrain_12 : decode cX0_weightOfTrain 12 = .ok (.iload 4, 2) := by decide +kernel
theorem dX0_weightOfTrain_14 : decode cX0_weightOfTrain 14 = .ok (.aload_n 0, 1) := by decide +kernel
theorem dX0_weightOfTrain_15 : decode cX0_weightOfTrain 15 = .ok (.getfield 15, 3) := by decide +kernel
theorem dX0_weightOfTrain_18 : decode cX0_weightOfTrain 18 = .ok (.iload_n 2, 1) := by decide +kernel
theorem dX0_weightOfTrain_19 : decode cX0_weightOfTrain 19 = .ok (.iconst 1, 1) := by decide +kernel
theorem dX0_weightOfTrain_20 : decode cX0_weightOfTrain 20 = .ok (.iadd, 1) := by decide +kernel
theorem dX0_weightOfTrain_21 : decode cX0_weightOfTrain 21 = .ok (.invokestatic 60, 3) := by decide +kernel
theorem dX0_weightOfTrain_24 : decode cX0_weightOfTrain 24 = .ok (.if_icmp .ge 25, 3) := by decide +kernel
theorem dX0_weightOfTrain_27 : decode cX0_weightOfTrain 27 = .ok (.iload_n 3, 1) := by decide +kernel
theorem dX0_weightOfTrain_28 : decode cX0_weightOfTrain 28 = .ok (.aload_n 1, 1) := by decide +kernel
theorem dX0_weightOfTrain_29 : decode cX0_weightOfTrain 29 = .ok (.aload_n 0, 1) := by decide +kernel
theorem dX0_weightOfTrain_30 : decode cX0_weightOfTrain 30 = .ok (.getfield 27, 3) := by decide +kernel
theorem dX0_weightOfTrain_33 : decode cX0_weightOfTrain 33 = .ok (.iload 4, 2) := by decide +kernel
theorem dX0_weightOfTrain_35 : decode cX0_weightOfTrain 35 = .ok (.invokestatic 60, 3) := by decide +kernel
theorem dX0_weightOfTrain_38 : decode cX0_weightOfTrain 38 = .ok (.invokevirtual 106, 3) := by decide +kernel
theorem dX0_weightOfTrain_41 : decode cX0_weightOfTrain 41 = .ok (.iadd, 1) := by decide +kernel
theorem dX0_weightOfTrain_42 : decode cX0_weightOfTrain 42 = .ok (.istore_n 3, 1) := by decide +kernel
theorem dX0_weightOfTrain_43 : decode cX0_weightOfTrain 43 = .ok (.iinc 4 1, 3) := by decide +kernel
theorem dX0_weightOfTrain_46 : decode cX0_weightOfTrain 46 = .ok (.goto (-34), 3) := by decide +kernel
theorem dX0_weightOfTrain_49 : decode cX0_weightOfTrain 49 = .ok (.iload_n 3, 1) := by decide +kernel
theorem dX0_weightOfTrain_50 : decode cX0_weightOfTrain 50 = .ok (.ireturn, 1) := by decide +kernel
theorem dX0_greatestWeight_0 : decode cX0_greatestWeight 0 = .ok (.iconst (-1), 1) := by decide +kernel
theorem dX0_greatestWeight_1 : decode cX0_greatestWeight 1 = .ok (.istore_n 3, 1) := by decide +kernel
theorem dX0_greatestWeight_2 : decode cX0_greatestWeight 2 = .ok (.aload_n 0, 1) := by decide +kernel
theorem dX0_greatestWeight_3 : decode cX0_greatestWeight 3 = .ok (.getfield 15, 3) := by decide +kernel
theorem dX0_greatestWeight_6 : decode cX0_greatestWeight 6 = .ok (.iload_n 2, 1) := by decide +kernel
theorem dX0_greatestWeight_7 : decode cX0_greatestWeight 7 = .ok (.invokestatic 60, 3) := by decide +kernel
theorem dX0_greatestWeight_10 : decode cX0_greatestWeight 10 = .ok (.istore 4, 2) := by decide +kernel
theorem dX0_greatestWeight_12 : decode cX0_greatestWeight 12 = .ok (.iload 4, 2) := by decide +kernel
theorem dX0_greatestWeight_14 : decode cX0_greatestWeight 14 = .ok (.aload_n 0, 1) := by decide +kernel
theorem dX0_greatestWeight_15 : decode cX0_greatestWeight 15 = .ok (.getfield 15, 3) := by decide +kernel
theorem dX0_greatestWeight_18 : decode cX0_greatestWeight 18 = .ok (.iload_n 2, 1) := by decide +kernel
theorem dX0_greatestWeight_19 : decode cX0_greatestWeight 19 = .ok (.iconst 1, 1) := by decide +kernel
theorem dX0_greatestWeight_20 : decode cX0_greatestWeight 20 = .ok (.iadd, 1) := by decide +kernel
theorem dX0_greatestWeight_21 : decode cX0_greatestWeight 21 = .ok (.invokestatic 60, 3) := by decide +kernel
theorem dX0_greatestWeight_24 : decode cX0_greatestWeight 24 = .ok (.if_icmp .ge 27, 3) := by decide +kernel
theorem dX0_greatestWeight_27 : decode cX0_greatestWeight 27 = .ok (.iload_n 3, 1) := by decide +kernel
theorem dX0_greatestWeight_28 : decode cX0_greatestWeight 28 = .ok (.aload_n 1, 1) := by decide +kernel
theorem dX0_greatestWeight_29 : decode cX0_greatestWeight 29 = .ok (.aload_n 0, 1) := by decide +kernel
theorem dX0_greatestWeight_30 : decode cX0_greatestWeight 30 = .ok (.getfield 27, 3) := by decide +kernel
theorem dX0_greatestWeight_33 : decode cX0_greatestWeight 33 = .ok (.iload 4, 2) := by decide +kernel
theorem dX0_greatestWeight_35 : decode cX0_greatestWeight 35 = .ok (.invokestatic 60, 3) := by decide +kernel
theorem dX0_greatestWeight_38 : decode cX0_greatestWeight 38 = .ok (.invokevirtual 106, 3) := by decide +kernel
theorem dX0_greatestWeight_41 : decode cX0_greatestWeight 41 = .ok (.invokestatic 100, 3) := by decide +kernel
theorem dX0_greatestWeight_44 : decode cX0_greatestWeight 44 = .ok (.istore_n 3, 1) := by decide +kernel
theorem dX0_greatestWeight_45 : decode cX0_greatestWeight 45 = .ok (.iinc 4 1, 3) := by decide +kernel
theorem dX0_greatestWeight_48 : decode cX0_greatestWeight 48 = .ok (.goto (-36), 3) := by decide +kernel
theorem dX0_greatestWeight_51 : decode cX0_greatestWeight 51 = .ok (.iload_n 3, 1) := by decide +kernel
theorem dX0_greatestWeight_52 : decode cX0_greatestWeight 52 = .ok (.ireturn, 1) := by decide +kernel
theorem dX0_speedDifference_0 : decode cX0_speedDifference 0 = .ok (.aload_n 0, 1) := by decide +kernel
theorem dX0_speedDifference_1 : decode cX0_speedDifference 1 = .ok (.iload_n 2, 1) := by decide +kernel
theorem dX0_speedDifference_2 : decode cX0_speedDifference 2 = .ok (.invokevirtual 109, 3) := by decide +kernel
theorem dX0_speedDifference_5 : decode cX0_speedDifference 5 = .ok (.ifCond .ne 5, 3) := by decide +kernel
theorem dX0_speedDifference_8 : decode cX0_speedDifference 8 = .ok (.iconst (-1), 1) := by decide +kernel
theorem dX0_speedDifference_9 : decode cX0_speedDifference 9 = .ok (.ireturn, 1) := by decide +kernel
theorem dX0_speedDifference_10 : decode cX0_speedDifference 10 = .ok (.sipush 600, 3) := by decide +kernel
theorem dX0_speedDifference_13 : decode cX0_speedDifference 13 = .ok (.istore_n 3, 1) := by decide +kernel
theorem dX0_speedDifference_14 : decode cX0_speedDifference 14 = .ok (.iconst 0, 1) := by decide +kernel
theorem dX0_speedDifference_15 : decode cX0_speedDifference 15 = .ok (.istore 4, 2) := by decide +kernel
theorem dX0_speedDifference_17 : decode cX0_speedDifference 17 = .ok (.aload_n 0, 1) := by decide +kernel
theorem dX0_speedDifference_18 : decode cX0_speedDifference 18 = .ok (.getfield 15, 3) := by decide +kernel
theorem dX0_speedDifference_21 : decode cX0_speedDifference 21 = .ok (.iload_n 2, 1) := by decide +kernel
theorem dX0_speedDifference_22 : decode cX0_speedDifference 22 = .ok (.invokestatic 60, 3) := by decide +kernel
theorem dX0_speedDifference_25 : decode cX0_speedDifference 25 = .ok (.istore 5, 2) := by decide +kernel
theorem dX0_speedDifference_27 : decode cX0_speedDifference 27 = .ok (.iload 5, 2) := by decide +kernel
theorem dX0_speedDifference_29 : decode cX0_speedDifference 29 = .ok (.aload_n 0, 1) := by decide +kernel
theorem dX0_speedDifference_30 : decode cX0_speedDifference 30 = .ok (.getfield 15, 3) := by decide +kernel
theorem dX0_speedDifference_33 : decode cX0_speedDifference 33 = .ok (.iload_n 2, 1) := by decide +kernel
theorem dX0_speedDifference_34 : decode cX0_speedDifference 34 = .ok (.iconst 1, 1) := by decide +kernel
theorem dX0_speedDifference_35 : decode cX0_speedDifference 35 = .ok (.iadd, 1) := by decide +kernel
theorem dX0_speedDifference_36 : decode cX0_speedDifference 36 = .ok (.invokestatic 60, 3) := by decide +kernel
theorem dX0_speedDifference_39 : decode cX0_speedDifference 39 = .ok (.if_icmp .ge 40, 3) := by decide +kernel
theorem dX0_speedDifference_42 : decode cX0_speedDifference 42 = .ok (.aload_n 1, 1) := by decide +kernel
theorem dX0_speedDifference_43 : decode cX0_speedDifference 43 = .ok (.aload_n 0, 1) := by decide +kernel
theorem dX0_speedDifference_44 : decode cX0_speedDifference 44 = .ok (.getfield 27, 3) := by decide +kernel
theorem dX0_speedDifference_47 : decode cX0_speedDifference 47 = .ok (.iload 5, 2) := by decide +kernel
theorem dX0_speedDifference_49 : decode cX0_speedDifference 49 = .ok (.invokestatic 60, 3) := by decide +kernel
theorem dX0_speedDifference_52 : decode cX0_speedDifference 52 = .ok (.invokevirtual 112, 3) := by decide +kernel
theorem dX0_speedDifference_55 : decode cX0_speedDifference 55 = .ok (.istore 6, 2) := by decide +kernel
theorem dX0_speedDifference_57 : decode cX0_speedDifference 57 = .ok (.iload_n 3, 1) := by decide +kernel
theorem dX0_speedDifference_58 : decode cX0_speedDifference 58 = .ok (.iload 6, 2) := by decide +kernel
theorem dX0_speedDifference_60 : decode cX0_speedDifference 60 = .ok (.invokestatic 84, 3) := by decide +kernel
theorem dX0_speedDifference_63 : decode cX0_speedDifference 63 = .ok (.istore_n 3, 1) := by decide +kernel
theorem dX0_speedDifference_64 : decode cX0_speedDifference 64 = .ok (.iload 4, 2) := by decide +kernel
theorem dX0_speedDifference_66 : decode cX0_speedDifference 66 = .ok (.iload 6, 2) := by decide +kernel
theorem dX0_speedDifference_68 : decode cX0_speedDifference 68 = .ok (.invokestatic 100, 3) := by decide +kernel
theorem dX0_speedDifference_71 : decode cX0_speedDifference 71 = .ok (.istore 4, 2) := by decide +kernel
theorem dX0_speedDifference_73 : decode cX0_speedDifference 73 = .ok (.iinc 5 1, 3) := by decide +kernel
theorem dX0_speedDifference_76 : decode cX0_speedDifference 76 = .ok (.goto (-49), 3) := by decide +kernel
theorem dX0_speedDifference_79 : decode cX0_speedDifference 79 = .ok (.iload 4, 2) := by decide +kernel
theorem dX0_speedDifference_81 : decode cX0_speedDifference 81 = .ok (.iload_n 3, 1) := by decide +kernel
theorem dX0_speedDifference_82 : decode cX0_speedDifference 82 = .ok (.isub, 1) := by decide +kernel
theorem dX0_speedDifference_83 : decode cX0_speedDifference 83 = .ok (.ireturn, 1) := by decide +kernel
theorem dX0_ticksBeforeCar_0 : decode cX0_ticksBeforeCar 0 = .ok (.aload_n 0, 1) := by decide +kernel
theorem dX0_ticksBeforeCar_1 : decode cX0_ticksBeforeCar 1 = .ok (.getfield 27, 3) := by decide +kernel
theorem dX0_ticksBeforeCar_4 : decode cX0_ticksBeforeCar 4 = .ok (.iload_n 2, 1) := by decide +kernel
theorem dX0_ticksBeforeCar_5 : decode cX0_ticksBeforeCar 5 = .ok (.invokestatic 60, 3) := by decide +kernel
theorem dX0_ticksBeforeCar_8 : decode cX0_ticksBeforeCar 8 = .ok (.istore_n 3, 1) := by decide +kernel
theorem dX0_ticksBeforeCar_9 : decode cX0_ticksBeforeCar 9 = .ok (.iload_n 2, 1) := by decide +kernel
theorem dX0_ticksBeforeCar_10 : decode cX0_ticksBeforeCar 10 = .ok (.aload_n 0, 1) := by decide +kernel
theorem dX0_ticksBeforeCar_11 : decode cX0_ticksBeforeCar 11 = .ok (.getfield 15, 3) := by decide +kernel
theorem dX0_ticksBeforeCar_14 : decode cX0_ticksBeforeCar 14 = .ok (.aload_n 0, 1) := by decide +kernel
theorem dX0_ticksBeforeCar_15 : decode cX0_ticksBeforeCar 15 = .ok (.getfield 21, 3) := by decide +kernel
theorem dX0_ticksBeforeCar_18 : decode cX0_ticksBeforeCar 18 = .ok (.iload_n 3, 1) := by decide +kernel
theorem dX0_ticksBeforeCar_19 : decode cX0_ticksBeforeCar 19 = .ok (.invokestatic 60, 3) := by decide +kernel
theorem dX0_ticksBeforeCar_22 : decode cX0_ticksBeforeCar 22 = .ok (.invokestatic 60, 3) := by decide +kernel
theorem dX0_ticksBeforeCar_25 : decode cX0_ticksBeforeCar 25 = .ok (.if_icmp .ne 5, 3) := by decide +kernel
theorem dX0_ticksBeforeCar_28 : decode cX0_ticksBeforeCar 28 = .ok (.iconst (-1), 1) := by decide +kernel
theorem dX0_ticksBeforeCar_29 : decode cX0_ticksBeforeCar 29 = .ok (.ireturn, 1) := by decide +kernel
theorem dX0_ticksBeforeCar_30 : decode cX0_ticksBeforeCar 30 = .ok (.iconst 0, 1) := by decide +kernel
theorem dX0_ticksBeforeCar_31 : decode cX0_ticksBeforeCar 31 = .ok (.istore 4, 2) := by decide +kernel
theorem dX0_ticksBeforeCar_33 : decode cX0_ticksBeforeCar 33 = .ok (.aload_n 0, 1) := by decide +kernel
theorem dX0_ticksBeforeCar_34 : decode cX0_ticksBeforeCar 34 = .ok (.getfield 27, 3) := by decide +kernel
theorem dX0_ticksBeforeCar_37 : decode cX0_ticksBeforeCar 37 = .ok (.iload_n 2, 1) := by decide +kernel
theorem dX0_ticksBeforeCar_38 : decode cX0_ticksBeforeCar 38 = .ok (.iconst 1, 1) := by decide +kernel
theorem dX0_ticksBeforeCar_39 : decode cX0_ticksBeforeCar 39 = .ok (.isub, 1) := by decide +kernel
theorem dX0_ticksBeforeCar_40 : decode cX0_ticksBeforeCar 40 = .ok (.invokestatic 60, 3) := by decide +kernel
theorem dX0_ticksBeforeCar_43 : decode cX0_ticksBeforeCar 43 = .ok (.iconst 2, 1) := by decide +kernel
theorem dX0_ticksBeforeCar_44 : decode cX0_ticksBeforeCar 44 = .ok (.iadd, 1) := by decide +kernel
theorem dX0_ticksBeforeCar_45 : decode cX0_ticksBeforeCar 45 = .ok (.istore 5, 2) := by decide +kernel
theorem dX0_ticksBeforeCar_47 : decode cX0_ticksBeforeCar 47 = .ok (.iload 5, 2) := by decide +kernel
theorem dX0_ticksBeforeCar_49 : decode cX0_ticksBeforeCar 49 = .ok (.iload_n 3, 1) := by decide +kernel
theorem dX0_ticksBeforeCar_50 : decode cX0_ticksBeforeCar 50 = .ok (.if_icmp .gt 23, 3) := by decide +kernel
theorem dX0_ticksBeforeCar_53 : decode cX0_ticksBeforeCar 53 = .ok (.iload 4, 2) := by decide +kernel
theorem dX0_ticksBeforeCar_55 : decode cX0_ticksBeforeCar 55 = .ok (.aload_n 1, 1) := by decide +kernel
theorem dX0_ticksBeforeCar_56 : decode cX0_ticksBeforeCar 56 = .ok (.getfield 97, 3) := by decide +kernel
theorem dX0_ticksBeforeCar_59 : decode cX0_ticksBeforeCar 59 = .ok (.iload 5, 2) := by decide +kernel
theorem dX0_ticksBeforeCar_61 : decode cX0_ticksBeforeCar 61 = .ok (.invokestatic 60, 3) := by decide +kernel
theorem dX0_ticksBeforeCar_64 : decode cX0_ticksBeforeCar 64 = .ok (.iadd, 1) := by decide +kernel
theorem dX0_ticksBeforeCar_65 : decode cX0_ticksBeforeCar 65 = .ok (.istore 4, 2) := by decide +kernel
theorem dX0_ticksBeforeCar_67 : decode cX0_ticksBeforeCar 67 = .ok (.iinc 5 1, 3) := by decide +kernel
theorem dX0_ticksBeforeCar_70 : decode cX0_ticksBeforeCar 70 = .ok (.goto (-23), 3) := by decide +kernel
theorem dX0_ticksBeforeCar_73 : decode cX0_ticksBeforeCar 73 = .ok (.iload 4, 2) := by decide +kernel
theorem dX0_ticksBeforeCar_75 : decode cX0_ticksBeforeCar 75 = .ok (.ireturn, 1) := by decide +kernel
theorem dX0_costWithStray_0 : decode cX0_costWithStray 0 = .ok (.aload_n 0, 1) := by decide +kernel
theorem dX0_costWithStray_1 : decode cX0_costWithStray 1 = .ok (.getfield 9, 3) := by decide +kernel
theorem dX0_costWithStray_4 : decode cX0_costWithStray 4 = .ok (.iload_n 2, 1) := by decide +kernel
theorem dX0_costWithStray_5 : decode cX0_costWithStray 5 = .ok (.invokestatic 60, 3) := by decide +kernel
theorem dX0_costWithStray_8 : decode cX0_costWithStray 8 = .ok (.istore 4, 2) := by decide +kernel
theorem dX0_costWithStray_10 : decode cX0_costWithStray 10 = .ok (.aload_n 0, 1) := by decide +kernel
theorem dX0_costWithStray_11 : decode cX0_costWithStray 11 = .ok (.aload_n 1, 1) := by decide +kernel
theorem dX0_costWithStray_12 : decode cX0_costWithStray 12 = .ok (.iload 4, 2) := by decide +kernel
theorem dX0_costWithStray_14 : decode cX0_costWithStray 14 = .ok (.aload_n 0, 1) := by decide +kernel
theorem dX0_costWithStray_15 : decode cX0_costWithStray 15 = .ok (.getfield 9, 3) := by decide +kernel
theorem dX0_costWithStray_18 : decode cX0_costWithStray 18 = .ok (.iload_n 2, 1) := by decide +kernel
theorem dX0_costWithStray_19 : decode cX0_costWithStray 19 = .ok (.iconst 1, 1) := by decide +kernel
theorem dX0_costWithStray_20 : decode cX0_costWithStray 20 = .ok (.iadd, 1) := by decide +kernel
theorem dX0_costWithStray_21 : decode cX0_costWithStray 21 = .ok (.invokestatic 60, 3) := by decide +kernel
theorem dX0_costWithStray_24 : decode cX0_costWithStray 24 = .ok (.iload_n 3, 1) := by decide +kernel
theorem dX0_costWithStray_25 : decode cX0_costWithStray 25 = .ok (.invokevirtual 56, 3) := by decide +kernel
theorem dX0_costWithStray_28 : decode cX0_costWithStray 28 = .ok (.aload_n 0, 1) := by decide +kernel
theorem dX0_costWithStray_29 : decode cX0_costWithStray 29 = .ok (.getfield 33, 3) := by decide +kernel
theorem dX0_costWithStray_32 : decode cX0_costWithStray 32 = .ok (.iload 4, 2) := by decide +kernel
theorem dX0_costWithStray_34 : decode cX0_costWithStray 34 = .ok (.invokestatic 60, 3) := by decide +kernel
theorem dX0_costWithStray_37 : decode cX0_costWithStray 37 = .ok (.invokestatic 64, 3) := by decide +kernel
theorem dX0_costWithStray_40 : decode cX0_costWithStray 40 = .ok (.ireturn, 1) := by decide +kernel
theorem dX1_init_0 : decode cX1_init 0 = .ok (.aload_n 0, 1) := by decide +kernel
theorem dX1_init_1 : decode cX1_init 1 = .ok (.invokespecial 3, 3) := by decide +kernel
theorem dX1_init_4 : decode cX1_init 4 = .ok (.aload_n 0, 1) := by decide +kernel
theorem dX1_init_5 : decode cX1_init 5 = .ok (.bipush 30, 2) := by decide +kernel
theorem dX1_init_7 : decode cX1_init 7 = .ok (.newarray .int, 2) := by decide +kernel
theorem dX1_init_9 : decode cX1_init 9 = .ok (.putfield 9, 3) := by decide +kernel
theorem dX1_init_12 : decode cX1_init 12 = .ok (.aload_n 0, 1) := by decide +kernel
theorem dX1_init_13 : decode cX1_init 13 = .ok (.bipush 30, 2) := by decide +kernel
theorem dX1_init_15 : decode cX1_init 15 = .ok (.newarray .int, 2) := by decide +kernel
theorem dX1_init_17 : decode cX1_init 17 = .ok (.putfield 15, 3) := by decide +kernel
theorem dX1_init_20 : decode cX1_init 20 = .ok (.aload_n 0, 1) := by decide +kernel
theorem dX1_init_21 : decode cX1_init 21 = .ok (.bipush 30, 2) := by decide +kernel
theorem dX1_init_23 : decode cX1_init 23 = .ok (.newarray .int, 2) := by decide +kernel
theorem dX1_init_25 : decode cX1_init 25 = .ok (.putfield 18, 3) := by decide +kernel
theorem dX1_init_28 : decode cX1_init 28 = .ok (.aload_n 0, 1) := by decide +kernel
theorem dX1_init_29 : decode cX1_init 29 = .ok (.getstatic 21, 3) := by decide +kernel
theorem dX1_init_32 : decode cX1_init 32 = .ok (.arraylength, 1) := by decide +kernel
theorem dX1_init_33 : decode cX1_init 33 = .ok (.newarray .int, 2) := by decide +kernel
theorem dX1_init_35 : decode cX1_init 35 = .ok (.putfield 24, 3) := by decide +kernel
theorem dX1_init_38 : decode cX1_init 38 = .ok (.iconst 0, 1) := by decide +kernel
theorem dX1_init_39 : decode cX1_init 39 = .ok (.istore_n 1, 1) := by decide +kernel
theorem dX1_init_40 : decode cX1_init 40 = .ok (.iload_n 1, 1) := by decide +kernel
theorem dX1_init_41 : decode cX1_init 41 = .ok (.getstatic 21, 3) := by decide +kernel
theorem dX1_init_44 : decode cX1_init 44 = .ok (.arraylength, 1) := by decide +kernel
theorem dX1_init_45 : decode cX1_init 45 = .ok (.if_icmp .ge 20, 3) := by decide +kernel
theorem dX1_init_48 : decode cX1_init 48 = .ok (.aload_n 0, 1) := by decide +kernel
theorem dX1_init_49 : decode cX1_init 49 = .ok (.getfield 24, 3) := by decide +kernel
theorem dX1_init_52 : decode cX1_init 52 = .ok (.iload_n 1, 1) := by decide +kernel
theorem dX1_init_53 : decode cX1_init 53 = .ok (.getstatic 21, 3) := by decide +kernel
theorem dX1_init_56 : decode cX1_init 56 = .ok (.iload_n 1, 1) := by decide +kernel
theorem dX1_init_57 : decode cX1_init 57 = .ok (.iaload, 1) := by decide +kernel
theorem dX1_init_58 : decode cX1_init 58 = .ok (.iastore, 1) := by decide +kernel
theorem dX1_init_59 : decode cX1_init 59 = .ok (.iinc 1 1, 3) := by decide +kernel
theorem dX1_init_62 : decode cX1_init 62 = .ok (.goto (-22), 3) := by decide +kernel
theorem dX1_init_65 : decode cX1_init 65 = .ok (.return_, 1) := by decide +kernel
theorem dX1_has_0 : decode cX1_has 0 = .ok (.iload_n 1, 1) := by decide +kernel
theorem dX1_has_1 : decode cX1_has 1 = .ok (.ifCond .lt 15, 3) := by decide +kernel
theorem dX1_has_4 : decode cX1_has 4 = .ok (.iload_n 1, 1) := by decide +kernel
theorem dX1_has_5 : decode cX1_has 5 = .ok (.aload_n 0, 1) := by decide +kernel
theorem dX1_has_6 : decode cX1_has 6 = .ok (.getfield 27, 3) := by decide +kernel
theorem dX1_has_9 : decode cX1_has 9 = .ok (.if_icmp .ge 7, 3) := by decide +kernel
theorem dX1_has_12 : decode cX1_has 12 = .ok (.iconst 1, 1) := by decide +kernel
theorem dX1_has_13 : decode cX1_has 13 = .ok (.goto 4, 3) := by decide +kernel
theorem dX1_has_16 : decode cX1_has 16 = .ok (.iconst 0, 1) := by decide +kernel
theorem dX1_has_17 : decode cX1_has 17 = .ok (.ireturn, 1) := by decide +kernel
theorem dX1_beginsTrain_0 : decode cX1_beginsTrain 0 = .ok (.iload_n 1, 1) := by decide +kernel
theorem dX1_beginsTrain_1 : decode cX1_beginsTrain 1 = .ok (.ifCond .eq 22, 3) := by decide +kernel
theorem dX1_beginsTrain_4 : decode cX1_beginsTrain 4 = .ok (.aload_n 0, 1) := by decide +kernel
theorem dX1_beginsTrain_5 : decode cX1_beginsTrain 5 = .ok (.getfield 9, 3) := by decide +kernel
theorem dX1_beginsTrain_8 : decode cX1_beginsTrain 8 = .ok (.iload_n 1, 1) := by decide +kernel
theorem dX1_beginsTrain_9 : decode cX1_beginsTrain 9 = .ok (.invokestatic 31, 3) := by decide +kernel
theorem dX1_beginsTrain_12 : decode cX1_beginsTrain 12 = .ok (.aload_n 0, 1) := by decide +kernel
theorem dX1_beginsTrain_13 : decode cX1_beginsTrain 13 = .ok (.getfield 24, 3) := by decide +kernel
theorem dX1_beginsTrain_16 : decode cX1_beginsTrain 16 = .ok (.iconst 3, 1) := by decide +kernel
theorem dX1_beginsTrain_17 : decode cX1_beginsTrain 17 = .ok (.invokestatic 31, 3) := by decide +kernel
theorem dX1_beginsTrain_20 : decode cX1_beginsTrain 20 = .ok (.if_icmp .lt 7, 3) := by decide +kernel
theorem dX1_beginsTrain_23 : decode cX1_beginsTrain 23 = .ok (.iconst 1, 1) := by decide +kernel
theorem dX1_beginsTrain_24 : decode cX1_beginsTrain 24 = .ok (.goto 4, 3) := by decide +kernel
theorem dX1_beginsTrain_27 : decode cX1_beginsTrain 27 = .ok (.iconst 0, 1) := by decide +kernel
theorem dX1_beginsTrain_28 : decode cX1_beginsTrain 28 = .ok (.ireturn, 1) := by decide +kernel
theorem dX1_addAxle_0 : decode cX1_addAxle 0 = .ok (.iload_n 1, 1) := by decide +kernel
theorem dX1_addAxle_1 : decode cX1_addAxle 1 = .ok (.invokestatic 35, 3) := by decide +kernel
theorem dX1_addAxle_4 : decode cX1_addAxle 4 = .ok (.ifCond .eq 26, 3) := by decide +kernel
theorem dX1_addAxle_7 : decode cX1_addAxle 7 = .ok (.iload_n 2, 1) := by decide +kernel
theorem dX1_addAxle_8 : decode cX1_addAxle 8 = .ok (.invokestatic 39, 3) := by decide +kernel
theorem dX1_addAxle_11 : decode cX1_addAxle 11 = .ok (.ifCond .eq 19, 3) := by decide +kernel
theorem dX1_addAxle_14 : decode cX1_addAxle 14 = .ok (.aload_n 0, 1) := by decide +kernel
theorem dX1_addAxle_15 : decode cX1_addAxle 15 = .ok (.getfield 27, 3) := by decide +kernel
theorem dX1_addAxle_18 : decode cX1_addAxle 18 = .ok (.ifCond .lt 12, 3) := by decide +kernel
theorem dX1_addAxle_21 : decode cX1_addAxle 21 = .ok (.aload_n 0, 1) := by decide +kernel
theorem dX1_addAxle_22 : decode cX1_addAxle 22 = .ok (.getfield 27, 3) := by decide +kernel
theorem dX1_addAxle_25 : decode cX1_addAxle 25 = .ok (.bipush 30, 2) := by decide +kernel
theorem dX1_addAxle_27 : decode cX1_addAxle 27 = .ok (.if_icmp .lt 5, 3) := by decide +kernel
theorem dX1_addAxle_30 : decode cX1_addAxle 30 = .ok (.iconst 0, 1) := by decide +kernel
theorem dX1_addAxle_31 : decode cX1_addAxle 31 = .ok (.ireturn, 1) := by decide +kernel
theorem dX1_addAxle_32 : decode cX1_addAxle 32 = .ok (.aload_n 0, 1) := by decide +kernel
theorem dX1_addAxle_33 : decode cX1_addAxle 33 = .ok (.getfield 9, 3) := by decide +kernel
theorem dX1_addAxle_36 : decode cX1_addAxle 36 = .ok (.aload_n 0, 1) := by decide +kernel
theorem dX1_addAxle_37 : decode cX1_addAxle 37 = .ok (.getfield 27, 3) := by decide +kernel
theorem dX1_addAxle_40 : decode cX1_addAxle 40 = .ok (.iload_n 1, 1) := by decide +kernel
theorem dX1_addAxle_41 : decode cX1_addAxle 41 = .ok (.iastore, 1) := by decide +kernel
theorem dX1_addAxle_42 : decode cX1_addAxle 42 = .ok (.aload_n 0, 1) := by decide +kernel
theorem dX1_addAxle_43 : decode cX1_addAxle 43 = .ok (.getfield 15, 3) := by decide +kernel
theorem dX1_addAxle_46 : decode cX1_addAxle 46 = .ok (.aload_n 0, 1) := by decide +kernel
theorem dX1_addAxle_47 : decode cX1_addAxle 47 = .ok (.getfield 27, 3) := by decide +kernel
theorem dX1_addAxle_50 : decode cX1_addAxle 50 = .ok (.iload_n 2, 1) := by decide +kernel
theorem dX1_addAxle_51 : decode cX1_addAxle 51 = .ok (.iastore, 1) := by decide +kernel
theorem dX1_addAxle_52 : decode cX1_addAxle 52 = .ok (.aload_n 0, 1) := by decide +kernel
theorem dX1_addAxle_53 : decode cX1_addAxle 53 = .ok (.dup, 1) := by decide +kernel
theorem dX1_addAxle_54 : decode cX1_addAxle 54 = .ok (.getfield 27, 3) := by decide +kernel
theorem dX1_addAxle_57 : decode cX1_addAxle 57 = .ok (.iconst 1, 1) := by decide +kernel
theorem dX1_addAxle_58 : decode cX1_addAxle 58 = .ok (.iadd, 1) := by decide +kernel
theorem dX1_addAxle_59 : decode cX1_addAxle 59 = .ok (.putfield 27, 3) := by decide +kernel
theorem dX1_addAxle_62 : decode cX1_addAxle 62 = .ok (.iconst 1, 1) := by decide +kernel
theorem dX1_addAxle_63 : decode cX1_addAxle 63 = .ok (.ireturn, 1) := by decide +kernel
theorem dX1_dropAxle_0 : decode cX1_dropAxle 0 = .ok (.aload_n 0, 1) := by decide +kernel
theorem dX1_dropAxle_1 : decode cX1_dropAxle 1 = .ok (.iload_n 1, 1) := by decide +kernel
theorem dX1_dropAxle_2 : decode cX1_dropAxle 2 = .ok (.invokevirtual 42, 3) := by decide +kernel
theorem dX1_dropAxle_5 : decode cX1_dropAxle 5 = .ok (.ifCond .ne 5, 3) := by decide +kernel
theorem dX1_dropAxle_8 : decode cX1_dropAxle 8 = .ok (.iconst 0, 1) := by decide +kernel
theorem dX1_dropAxle_9 : decode cX1_dropAxle 9 = .ok (.ireturn, 1) := by decide +kernel
theorem dX1_dropAxle_10 : decode cX1_dropAxle 10 = .ok (.aload_n 0, 1) := by decide +kernel
theorem dX1_dropAxle_11 : decode cX1_dropAxle 11 = .ok (.getfield 9, 3) := by decide +kernel
theorem dX1_dropAxle_14 : decode cX1_dropAxle 14 = .ok (.iload_n 1, 1) := by decide +kernel
theorem dX1_dropAxle_15 : decode cX1_dropAxle 15 = .ok (.invokestatic 31, 3) := by decide +kernel
theorem dX1_dropAxle_18 : decode cX1_dropAxle 18 = .ok (.istore_n 2, 1) := by decide +kernel
theorem dX1_dropAxle_19 : decode cX1_dropAxle 19 = .ok (.aload_n 0, 1) := by decide +kernel
theorem dX1_dropAxle_20 : decode cX1_dropAxle 20 = .ok (.iload_n 1, 1) := by decide +kernel
theorem dX1_dropAxle_21 : decode cX1_dropAxle 21 = .ok (.iconst 1, 1) := by decide +kernel
theorem dX1_dropAxle_22 : decode cX1_dropAxle 22 = .ok (.invokevirtual 45, 3) := by decide +kernel
theorem dX1_dropAxle_25 : decode cX1_dropAxle 25 = .ok (.aload_n 0, 1) := by decide +kernel
theorem dX1_dropAxle_26 : decode cX1_dropAxle 26 = .ok (.iload_n 1, 1) := by decide +kernel
theorem dX1_dropAxle_27 : decode cX1_dropAxle 27 = .ok (.invokevirtual 42, 3) := by decide +kernel
theorem dX1_dropAxle_30 : decode cX1_dropAxle 30 = .ok (.ifCond .eq 22, 3) := by decide +kernel
theorem dX1_dropAxle_33 : decode cX1_dropAxle 33 = .ok (.aload_n 0, 1) := by decide +kernel
theorem dX1_dropAxle_34 : decode cX1_dropAxle 34 = .ok (.getfield 9, 3) := by decide +kernel
theorem dX1_dropAxle_37 : decode cX1_dropAxle 37 = .ok (.iload_n 1, 1) := by decide +kernel
theorem dX1_dropAxle_38 : decode cX1_dropAxle 38 = .ok (.aload_n 0, 1) := by decide +kernel
theorem dX1_dropAxle_39 : decode cX1_dropAxle 39 = .ok (.getfield 9, 3) := by decide +kernel
theorem dX1_dropAxle_42 : decode cX1_dropAxle 42 = .ok (.iload_n 1, 1) := by decide +kernel
theorem dX1_dropAxle_43 : decode cX1_dropAxle 43 = .ok (.iaload, 1) := by decide +kernel
theorem dX1_dropAxle_44 : decode cX1_dropAxle 44 = .ok (.iload_n 2, 1) := by decide +kernel
theorem dX1_dropAxle_45 : decode cX1_dropAxle 45 = .ok (.iadd, 1) := by decide +kernel
theorem dX1_dropAxle_46 : decode cX1_dropAxle 46 = .ok (.bipush 60, 2) := by decide +kernel
theorem dX1_dropAxle_48 : decode cX1_dropAxle 48 = .ok (.invokestatic 49, 3) := by decide +kernel
theorem dX1_dropAxle_51 : decode cX1_dropAxle 51 = .ok (.iastore, 1) := by decide +kernel
theorem dX1_dropAxle_52 : decode cX1_dropAxle 52 = .ok (.iconst 1, 1) := by decide +kernel
theorem dX1_dropAxle_53 : decode cX1_dropAxle 53 = .ok (.ireturn, 1) := by decide +kernel
theorem dX1_putWeight_0 : decode cX1_putWeight 0 = .ok (.aload_n 0, 1) := by decide +kernel
theorem dX1_putWeight_1 : decode cX1_putWeight 1 = .ok (.iload_n 1, 1) := by decide +kernel
theorem dX1_putWeight_2 : decode cX1_putWeight 2 = .ok (.invokevirtual 42, 3) := by decide +kernel
theorem dX1_putWeight_5 : decode cX1_putWeight 5 = .ok (.ifCond .eq 10, 3) := by decide +kernel
theorem dX1_putWeight_8 : decode cX1_putWeight 8 = .ok (.iload_n 2, 1) := by decide +kernel
theorem dX1_putWeight_9 : decode cX1_putWeight 9 = .ok (.invokestatic 39, 3) := by decide +kernel
theorem dX1_putWeight_12 : decode cX1_putWeight 12 = .ok (.ifCond .ne 5, 3) := by decide +kernel
theorem dX1_putWeight_15 : decode cX1_putWeight 15 = .ok (.iconst 0, 1) := by decide +kernel
theorem dX1_putWeight_16 : decode cX1_putWeight 16 = .ok (.ireturn, 1) := by decide +kernel
theorem dX1_putWeight_17 : decode cX1_putWeight 17 = .ok (.aload_n 0, 1) := by decide +kernel
theorem dX1_putWeight_18 : decode cX1_putWeight 18 = .ok (.getfield 15, 3) := by decide +kernel
theorem dX1_putWeight_21 : decode cX1_putWeight 21 = .ok (.iload_n 1, 1) := by decide +kernel
theorem dX1_putWeight_22 : decode cX1_putWeight 22 = .ok (.iload_n 2, 1) := by decide +kernel
theorem dX1_putWeight_23 : decode cX1_putWeight 23 = .ok (.iastore, 1) := by decide +kernel
theorem dX1_putWeight_24 : decode cX1_putWeight 24 = .ok (.iconst 1, 1) := by decide +kernel
theorem dX1_putWeight_25 : decode cX1_putWeight 25 = .ok (.ireturn, 1) := by decide +kernel
theorem dX1_putSetting_0 : decode cX1_putSetting 0 = .ok (.iload_n 1, 1) := by decide +kernel
theorem dX1_putSetting_1 : decode cX1_putSetting 1 = .ok (.iload_n 2, 1) := by decide +kernel
theorem dX1_putSetting_2 : decode cX1_putSetting 2 = .ok (.invokestatic 55, 3) := by decide +kernel
theorem dX1_putSetting_5 : decode cX1_putSetting 5 = .ok (.ifCond .ne 5, 3) := by decide +kernel
theorem dX1_putSetting_8 : decode cX1_putSetting 8 = .ok (.iconst 0, 1) := by decide +kernel
theorem dX1_putSetting_9 : decode cX1_putSetting 9 = .ok (.ireturn, 1) := by decide +kernel
theorem dX1_putSetting_10 : decode cX1_putSetting 10 = .ok (.aload_n 0, 1) := by decide +kernel
theorem dX1_putSetting_11 : decode cX1_putSetting 11 = .ok (.getfield 24, 3) := by decide +kernel
theorem dX1_putSetting_14 : decode cX1_putSetting 14 = .ok (.iload_n 1, 1) := by decide +kernel
theorem dX1_putSetting_15 : decode cX1_putSetting 15 = .ok (.iload_n 2, 1) := by decide +kernel
theorem dX1_putSetting_16 : decode cX1_putSetting 16 = .ok (.iastore, 1) := by decide +kernel
theorem dX1_putSetting_17 : decode cX1_putSetting 17 = .ok (.iconst 1, 1) := by decide +kernel
theorem dX1_putSetting_18 : decode cX1_putSetting 18 = .ok (.ireturn, 1) := by decide +kernel
theorem dX1_dropFirstTrain_0 : decode cX1_dropFirstTrain 0 = .ok (.aload_n 0, 1) := by decide +kernel
theorem dX1_dropFirstTrain_1 : decode cX1_dropFirstTrain 1 = .ok (.getfield 27, 3) := by decide +kernel
theorem dX1_dropFirstTrain_4 : decode cX1_dropFirstTrain 4 = .ok (.ifCond .ne 5, 3) := by decide +kernel
theorem dX1_dropFirstTrain_7 : decode cX1_dropFirstTrain 7 = .ok (.iconst 0, 1) := by decide +kernel
theorem dX1_dropFirstTrain_8 : decode cX1_dropFirstTrain 8 = .ok (.ireturn, 1) := by decide +kernel
theorem dX1_dropFirstTrain_9 : decode cX1_dropFirstTrain 9 = .ok (.iconst 1, 1) := by decide +kernel
theorem dX1_dropFirstTrain_10 : decode cX1_dropFirstTrain 10 = .ok (.istore_n 1, 1) := by decide +kernel
theorem dX1_dropFirstTrain_11 : decode cX1_dropFirstTrain 11 = .ok (.iload_n 1, 1) := by decide +kernel
theorem dX1_dropFirstTrain_12 : decode cX1_dropFirstTrain 12 = .ok (.aload_n 0, 1) := by decide +kernel
theorem dX1_dropFirstTrain_13 : decode cX1_dropFirstTrain 13 = .ok (.getfield 27, 3) := by decide +kernel
theorem dX1_dropFirstTrain_16 : decode cX1_dropFirstTrain 16 = .ok (.if_icmp .ge 17, 3) := by decide +kernel
theorem dX1_dropFirstTrain_19 : decode cX1_dropFirstTrain 19 = .ok (.aload_n 0, 1) := by decide +kernel
theorem dX1_dropFirstTrain_20 : decode cX1_dropFirstTrain 20 = .ok (.iload_n 1, 1) := by decide +kernel
theorem dX1_dropFirstTrain_21 : decode cX1_dropFirstTrain 21 = .ok (.invokevirtual 59, 3) := by decide +kernel
theorem dX1_dropFirstTrain_24 : decode cX1_dropFirstTrain 24 = .ok (.ifCond .ne 9, 3) := by decide +kernel
theorem dX1_dropFirstTrain_27 : decode cX1_dropFirstTrain 27 = .ok (.iinc 1 1, 3) := by decide +kernel
theorem dX1_dropFirstTrain_30 : decode cX1_dropFirstTrain 30 = .ok (.goto (-19), 3) := by decide +kernel
theorem dX1_dropFirstTrain_33 : decode cX1_dropFirstTrain 33 = .ok (.aload_n 0, 1) := by decide +kernel
theorem dX1_dropFirstTrain_34 : decode cX1_dropFirstTrain 34 = .ok (.iconst 0, 1) := by decide +kernel
theorem dX1_dropFirstTrain_35 : decode cX1_dropFirstTrain 35 = .ok (.iload_n 1, 1) := by decide +kernel
theorem dX1_dropFirstTrain_36 : decode cX1_dropFirstTrain 36 = .ok (.invokevirtual 45, 3) := by decide +kernel
theorem dX1_dropFirstTrain_39 : decode cX1_dropFirstTrain 39 = .ok (.iconst 0, 1) := by decide +kernel
theorem dX1_dropFirstTrain_40 : decode cX1_dropFirstTrain 40 = .ok (.istore_n 2, 1) := by decide +kernel
theorem dX1_dropFirstTrain_41 : decode cX1_dropFirstTrain 41 = .ok (.iload_n 2, 1) := by decide +kernel
theorem dX1_dropFirstTrain_42 : decode cX1_dropFirstTrain 42 = .ok (.bipush 30, 2) := by decide +kernel
theorem dX1_dropFirstTrain_44 : decode cX1_dropFirstTrain 44 = .ok (.if_icmp .ge 25, 3) := by decide +kernel
theorem dX1_dropFirstTrain_47 : decode cX1_dropFirstTrain 47 = .ok (.aload_n 0, 1) := by decide +kernel
theorem dX1_dropFirstTrain_48 : decode cX1_dropFirstTrain 48 = .ok (.getfield 18, 3) := by decide +kernel
theorem dX1_dropFirstTrain_51 : decode cX1_dropFirstTrain 51 = .ok (.iload_n 2, 1) := by decide +kernel
theorem dX1_dropFirstTrain_52 : decode cX1_dropFirstTrain 52 = .ok (.aload_n 0, 1) := by decide +kernel
theorem dX1_dropFirstTrain_53 : decode cX1_dropFirstTrain 53 = .ok (.getfield 18, 3) := by decide +kernel
theorem dX1_dropFirstTrain_56 : decode cX1_dropFirstTrain 56 = .ok (.iload_n 2, 1) := by decide +kernel
theorem dX1_dropFirstTrain_57 : decode cX1_dropFirstTrain 57 = .ok (.iconst 1, 1) := by decide +kernel
theorem dX1_dropFirstTrain_58 : decode cX1_dropFirstTrain 58 = .ok (.iadd, 1) := by decide +kernel
theorem dX1_dropFirstTrain_59 : decode cX1_dropFirstTrain 59 = .ok (.invokestatic 31, 3) := by decide +kernel
theorem dX1_dropFirstTrain_62 : decode cX1_dropFirstTrain 62 = .ok (.iastore, 1) := by decide +kernel
theorem dX1_dropFirstTrain_63 : decode cX1_dropFirstTrain 63 = .ok (.iinc 2 1, 3) := by decide +kernel
theorem dX1_dropFirstTrain_66 : decode cX1_dropFirstTrain 66 = .ok (.goto (-25), 3) := by decide +kernel
theorem dX1_dropFirstTrain_69 : decode cX1_dropFirstTrain 69 = .ok (.iconst 1, 1) := by decide +kernel
theorem dX1_dropFirstTrain_70 : decode cX1_dropFirstTrain 70 = .ok (.ireturn, 1) := by decide +kernel
theorem dX1_dropAxles_0 : decode cX1_dropAxles 0 = .ok (.iload_n 1, 1) := by decide +kernel
theorem dX1_dropAxles_1 : decode cX1_dropAxles 1 = .ok (.iconst 0, 1) := by decide +kernel
theorem dX1_dropAxles_2 : decode cX1_dropAxles 2 = .ok (.invokestatic 62, 3) := by decide +kernel
theorem dX1_dropAxles_5 : decode cX1_dropAxles 5 = .ok (.istore_n 3, 1) := by decide +kernel
theorem dX1_dropAxles_6 : decode cX1_dropAxles 6 = .ok (.iload_n 3, 1) := by decide +kernel
theorem dX1_dropAxles_7 : decode cX1_dropAxles 7 = .ok (.bipush 30, 2) := by decide +kernel
theorem dX1_dropAxles_9 : decode cX1_dropAxles 9 = .ok (.if_icmp .ge 41, 3) := by decide +kernel
theorem dX1_dropAxles_12 : decode cX1_dropAxles 12 = .ok (.aload_n 0, 1) := by decide +kernel
theorem dX1_dropAxles_13 : decode cX1_dropAxles 13 = .ok (.getfield 9, 3) := by decide +kernel
theorem dX1_dropAxles_16 : decode cX1_dropAxles 16 = .ok (.iload_n 3, 1) := by decide +kernel
theorem dX1_dropAxles_17 : decode cX1_dropAxles 17 = .ok (.aload_n 0, 1) := by decide +kernel
theorem dX1_dropAxles_18 : decode cX1_dropAxles 18 = .ok (.getfield 9, 3) := by decide +kernel
theorem dX1_dropAxles_21 : decode cX1_dropAxles 21 = .ok (.iload_n 3, 1) := by decide +kernel
theorem dX1_dropAxles_22 : decode cX1_dropAxles 22 = .ok (.iload_n 2, 1) := by decide +kernel
theorem dX1_dropAxles_23 : decode cX1_dropAxles 23 = .ok (.iadd, 1) := by decide +kernel
theorem dX1_dropAxles_24 : decode cX1_dropAxles 24 = .ok (.invokestatic 31, 3) := by decide +kernel
theorem dX1_dropAxles_27 : decode cX1_dropAxles 27 = .ok (.iastore, 1) := by decide +kernel
theorem dX1_dropAxles_28 : decode cX1_dropAxles 28 = .ok (.aload_n 0, 1) := by decide +kernel
theorem dX1_dropAxles_29 : decode cX1_dropAxles 29 = .ok (.getfield 15, 3) := by decide +kernel
theorem dX1_dropAxles_32 : decode cX1_dropAxles 32 = .ok (.iload_n 3, 1) := by decide +kernel
theorem dX1_dropAxles_33 : decode cX1_dropAxles 33 = .ok (.aload_n 0, 1) := by decide +kernel
theorem dX1_dropAxles_34 : decode cX1_dropAxles 34 = .ok (.getfield 15, 3) := by decide +kernel
theorem dX1_dropAxles_37 : decode cX1_dropAxles 37 = .ok (.iload_n 3, 1) := by decide +kernel
theorem dX1_dropAxles_38 : decode cX1_dropAxles 38 = .ok (.iload_n 2, 1) := by decide +kernel
theorem dX1_dropAxles_39 : decode cX1_dropAxles 39 = .ok (.iadd, 1) := by decide +kernel
theorem dX1_dropAxles_40 : decode cX1_dropAxles 40 = .ok (.invokestatic 31, 3) := by decide +kernel
theorem dX1_dropAxles_43 : decode cX1_dropAxles 43 = .ok (.iastore, 1) := by decide +kernel
theorem dX1_dropAxles_44 : decode cX1_dropAxles 44 = .ok (.iinc 3 1, 3) := by decide +kernel
theorem dX1_dropAxles_47 : decode cX1_dropAxles 47 = .ok (.goto (-41), 3) := by decide +kernel
theorem dX1_dropAxles_50 : decode cX1_dropAxles 50 = .ok (.aload_n 0, 1) := by decide +kernel
theorem dX1_dropAxles_51 : decode cX1_dropAxles 51 = .ok (.dup, 1) := by decide +kernel
theorem dX1_dropAxles_52 : decode cX1_dropAxles 52 = .ok (.getfield 27, 3) := by decide +kernel
theorem dX1_dropAxles_55 : decode cX1_dropAxles 55 = .ok (.iload_n 2, 1) := by decide +kernel
theorem dX1_dropAxles_56 : decode cX1_dropAxles 56 = .ok (.isub, 1) := by decide +kernel
theorem dX1_dropAxles_57 : decode cX1_dropAxles 57 = .ok (.putfield 27, 3) := by decide +kernel
theorem dX1_dropAxles_60 : decode cX1_dropAxles 60 = .ok (.return_, 1) := by decide +kernel
theorem dX1_carWeight_0 : decode cX1_carWeight 0 = .ok (.aload_n 0, 1) := by decide +kernel
theorem dX1_carWeight_1 : decode cX1_carWeight 1 = .ok (.getfield 15, 3) := by decide +kernel
theorem dX1_carWeight_4 : decode cX1_carWeight 4 = .ok (.iload_n 1, 1) := by decide +kernel
theorem dX1_carWeight_5 : decode cX1_carWeight 5 = .ok (.invokestatic 31, 3) := by decide +kernel
theorem dX1_carWeight_8 : decode cX1_carWeight 8 = .ok (.aload_n 0, 1) := by decide +kernel
theorem dX1_carWeight_9 : decode cX1_carWeight 9 = .ok (.getfield 15, 3) := by decide +kernel
theorem dX1_carWeight_12 : decode cX1_carWeight 12 = .ok (.iload_n 1, 1) := by decide +kernel
theorem dX1_carWeight_13 : decode cX1_carWeight 13 = .ok (.iconst 1, 1) := by decide +kernel
theorem dX1_carWeight_14 : decode cX1_carWeight 14 = .ok (.iadd, 1) := by decide +kernel
theorem dX1_carWeight_15 : decode cX1_carWeight 15 = .ok (.invokestatic 31, 3) := by decide +kernel
theorem dX1_carWeight_18 : decode cX1_carWeight 18 = .ok (.iadd, 1) := by decide +kernel
theorem dX1_carWeight_19 : decode cX1_carWeight 19 = .ok (.ireturn, 1) := by decide +kernel
theorem dX1_carSpeed_0 : decode cX1_carSpeed 0 = .ok (.aload_n 0, 1) := by decide +kernel
theorem dX1_carSpeed_1 : decode cX1_carSpeed 1 = .ok (.getfield 9, 3) := by decide +kernel
theorem dX1_carSpeed_4 : decode cX1_carSpeed 4 = .ok (.iload_n 1, 1) := by decide +kernel
theorem dX1_carSpeed_5 : decode cX1_carSpeed 5 = .ok (.iconst 1, 1) := by decide +kernel
theorem dX1_carSpeed_6 : decode cX1_carSpeed 6 = .ok (.iadd, 1) := by decide +kernel
theorem dX1_carSpeed_7 : decode cX1_carSpeed 7 = .ok (.invokestatic 31, 3) := by decide +kernel
theorem dX1_carSpeed_10 : decode cX1_carSpeed 10 = .ok (.istore_n 2, 1) := by decide +kernel
theorem dX1_carSpeed_11 : decode cX1_carSpeed 11 = .ok (.iload_n 2, 1) := by decide +kernel
theorem dX1_carSpeed_12 : decode cX1_carSpeed 12 = .ok (.ifCond .le 11, 3) := by decide +kernel
theorem dX1_carSpeed_15 : decode cX1_carSpeed 15 = .ok (.sipush 600, 3) := by decide +kernel
theorem dX1_carSpeed_18 : decode cX1_carSpeed 18 = .ok (.iload_n 2, 1) := by decide +kernel
theorem dX1_carSpeed_19 : decode cX1_carSpeed 19 = .ok (.idiv, 1) := by decide +kernel
theorem dX1_carSpeed_20 : decode cX1_carSpeed 20 = .ok (.goto 4, 3) := by decide +kernel
theorem dX1_carSpeed_23 : decode cX1_carSpeed 23 = .ok (.iconst 0, 1) := by decide +kernel
theorem dX1_carSpeed_24 : decode cX1_carSpeed 24 = .ok (.ireturn, 1) := by decide +kernel
theorem dX1_carCost_0 : decode cX1_carCost 0 = .ok (.iconst 3, 1) := by decide +kernel
theorem dX1_carCost_1 : decode cX1_carCost 1 = .ok (.aload_n 0, 1) := by decide +kernel
theorem dX1_carCost_2 : decode cX1_carCost 2 = .ok (.getfield 9, 3) := by decide +kernel
theorem dX1_carCost_5 : decode cX1_carCost 5 = .ok (.iload_n 1, 1) := by decide +kernel
theorem dX1_carCost_6 : decode cX1_carCost 6 = .ok (.iconst 1, 1) := by decide +kernel
theorem dX1_carCost_7 : decode cX1_carCost 7 = .ok (.iadd, 1) := by decide +kernel
theorem dX1_carCost_8 : decode cX1_carCost 8 = .ok (.invokestatic 31, 3) := by decide +kernel
theorem dX1_carCost_11 : decode cX1_carCost 11 = .ok (.aload_n 0, 1) := by decide +kernel
theorem dX1_carCost_12 : decode cX1_carCost 12 = .ok (.getfield 24, 3) := by decide +kernel
theorem dX1_carCost_15 : decode cX1_carCost 15 = .ok (.iconst 0, 1) := by decide +kernel
theorem dX1_carCost_16 : decode cX1_carCost 16 = .ok (.invokestatic 31, 3) := by decide +kernel
theorem dX1_carCost_19 : decode cX1_carCost 19 = .ok (.isub, 1) := by decide +kernel
theorem dX1_carCost_20 : decode cX1_carCost 20 = .ok (.invokestatic 65, 3) := by decide +kernel
theorem dX1_carCost_23 : decode cX1_carCost 23 = .ok (.imul, 1) := by decide +kernel
theorem dX1_carCost_24 : decode cX1_carCost 24 = .ok (.aload_n 0, 1) := by decide +kernel
theorem dX1_carCost_25 : decode cX1_carCost 25 = .ok (.getfield 15, 3) := by decide +kernel
theorem dX1_carCost_28 : decode cX1_carCost 28 = .ok (.iload_n 1, 1) := by decide +kernel
theorem dX1_carCost_29 : decode cX1_carCost 29 = .ok (.invokestatic 31, 3) := by decide +kernel
theorem dX1_carCost_32 : decode cX1_carCost 32 = .ok (.aload_n 0, 1) := by decide +kernel
theorem dX1_carCost_33 : decode cX1_carCost 33 = .ok (.getfield 15, 3) := by decide +kernel
theorem dX1_carCost_36 : decode cX1_carCost 36 = .ok (.iload_n 1, 1) := by decide +kernel
theorem dX1_carCost_37 : decode cX1_carCost 37 = .ok (.iconst 1, 1) := by decide +kernel
theorem dX1_carCost_38 : decode cX1_carCost 38 = .ok (.iadd, 1) := by decide +kernel
theorem dX1_carCost_39 : decode cX1_carCost 39 = .ok (.invokestatic 31, 3) := by decide +kernel
theorem dX1_carCost_42 : decode cX1_carCost 42 = .ok (.isub, 1) := by decide +kernel
theorem dX1_carCost_43 : decode cX1_carCost 43 = .ok (.invokestatic 65, 3) := by decide +kernel
theorem dX1_carCost_46 : decode cX1_carCost 46 = .ok (.iadd, 1) := by decide +kernel
theorem dX1_carCost_47 : decode cX1_carCost 47 = .ok (.ireturn, 1) := by decide +kernel
theorem dX2_init_0 : decode cX2_init 0 = .ok (.aload_n 0, 1) := by decide +kernel
theorem dX2_init_1 : decode cX2_init 1 = .ok (.invokespecial 3, 3) := by decide +kernel
theorem dX2_init_4 : decode cX2_init 4 = .ok (.aload_n 0, 1) := by decide +kernel
theorem dX2_init_5 : decode cX2_init 5 = .ok (.bipush 120, 2) := by decide +kernel
theorem dX2_init_7 : decode cX2_init 7 = .ok (.newarray .int, 2) := by decide +kernel
theorem dX2_init_9 : decode cX2_init 9 = .ok (.putfield 9, 3) := by decide +kernel
theorem dX2_init_12 : decode cX2_init 12 = .ok (.aload_n 0, 1) := by decide +kernel
theorem dX2_init_13 : decode cX2_init 13 = .ok (.bipush 30, 2) := by decide +kernel
theorem dX2_init_15 : decode cX2_init 15 = .ok (.newarray .int, 2) := by decide +kernel
theorem dX2_init_17 : decode cX2_init 17 = .ok (.putfield 15, 3) := by decide +kernel
theorem dX2_init_20 : decode cX2_init 20 = .ok (.aload_n 0, 1) := by decide +kernel
theorem dX2_init_21 : decode cX2_init 21 = .ok (.bipush 30, 2) := by decide +kernel
theorem dX2_init_23 : decode cX2_init 23 = .ok (.newarray .int, 2) := by decide +kernel
theorem dX2_init_25 : decode cX2_init 25 = .ok (.putfield 18, 3) := by decide +kernel
theorem dX2_init_28 : decode cX2_init 28 = .ok (.aload_n 0, 1) := by decide +kernel
theorem dX2_init_29 : decode cX2_init 29 = .ok (.iconst 3, 1) := by decide +kernel
theorem dX2_init_30 : decode cX2_init 30 = .ok (.newarray .int, 2) := by decide +kernel
theorem dX2_init_32 : decode cX2_init 32 = .ok (.putfield 21, 3) := by decide +kernel
theorem dX2_init_35 : decode cX2_init 35 = .ok (.aload_n 0, 1) := by decide +kernel
theorem dX2_init_36 : decode cX2_init 36 = .ok (.iconst 3, 1) := by decide +kernel
theorem dX2_init_37 : decode cX2_init 37 = .ok (.newarray .int, 2) := by decide +kernel
theorem dX2_init_39 : decode cX2_init 39 = .ok (.putfield 24, 3) := by decide +kernel
theorem dX2_init_42 : decode cX2_init 42 = .ok (.return_, 1) := by decide +kernel
theorem dX2_add_0 : decode cX2_add 0 = .ok (.aload_n 0, 1) := by decide +kernel
theorem dX2_add_1 : decode cX2_add 1 = .ok (.getfield 27, 3) := by decide +kernel
theorem dX2_add_4 : decode cX2_add 4 = .ok (.ifCond .lt 12, 3) := by decide +kernel
theorem dX2_add_7 : decode cX2_add 7 = .ok (.aload_n 0, 1) := by decide +kernel
theorem dX2_add_8 : decode cX2_add 8 = .ok (.getfield 27, 3) := by decide +kernel
theorem dX2_add_11 : decode cX2_add 11 = .ok (.bipush 120, 2) := by decide +kernel
theorem dX2_add_13 : decode cX2_add 13 = .ok (.if_icmp .lt 5, 3) := by decide +kernel
theorem dX2_add_16 : decode cX2_add 16 = .ok (.iconst 0, 1) := by decide +kernel
theorem dX2_add_17 : decode cX2_add 17 = .ok (.ireturn, 1) := by decide +kernel
theorem dX2_add_18 : decode cX2_add 18 = .ok (.aload_n 0, 1) := by decide +kernel
theorem dX2_add_19 : decode cX2_add 19 = .ok (.getfield 9, 3) := by decide +kernel
theorem dX2_add_22 : decode cX2_add 22 = .ok (.aload_n 0, 1) := by decide +kernel
theorem dX2_add_23 : decode cX2_add 23 = .ok (.getfield 27, 3) := by decide +kernel
theorem dX2_add_26 : decode cX2_add 26 = .ok (.iload_n 1, 1) := by decide +kernel
theorem dX2_add_27 : decode cX2_add 27 = .ok (.iastore, 1) := by decide +kernel
theorem dX2_add_28 : decode cX2_add 28 = .ok (.aload_n 0, 1) := by decide +kernel
theorem dX2_add_29 : decode cX2_add 29 = .ok (.dup, 1) := by decide +kernel
theorem dX2_add_30 : decode cX2_add 30 = .ok (.getfield 27, 3) := by decide +kernel
theorem dX2_add_33 : decode cX2_add 33 = .ok (.iconst 1, 1) := by decide +kernel
theorem dX2_add_34 : decode cX2_add 34 = .ok (.iadd, 1) := by decide +kernel
theorem dX2_add_35 : decode cX2_add 35 = .ok (.putfield 27, 3) := by decide +kernel
theorem dX2_add_38 : decode cX2_add 38 = .ok (.iconst 1, 1) := by decide +kernel
theorem dX2_add_39 : decode cX2_add 39 = .ok (.ireturn, 1) := by decide +kernel
theorem dX2_read_0 : decode cX2_read 0 = .ok (.aload_n 0, 1) := by decide +kernel
theorem dX2_read_1 : decode cX2_read 1 = .ok (.iconst 0, 1) := by decide +kernel
theorem dX2_read_2 : decode cX2_read 2 = .ok (.putfield 31, 3) := by decide +kernel
theorem dX2_read_5 : decode cX2_read 5 = .ok (.aload_n 0, 1) := by decide +kernel
theorem dX2_read_6 : decode cX2_read 6 = .ok (.iconst 0, 1) := by decide +kernel
theorem dX2_read_7 : decode cX2_read 7 = .ok (.putfield 34, 3) := by decide +kernel
theorem dX2_read_10 : decode cX2_read 10 = .ok (.aload_n 0, 1) := by decide +kernel
theorem dX2_read_11 : decode cX2_read 11 = .ok (.iconst (-1), 1) := by decide +kernel
theorem dX2_read_12 : decode cX2_read 12 = .ok (.putfield 37, 3) := by decide +kernel
theorem dX2_read_15 : decode cX2_read 15 = .ok (.aload_n 0, 1) := by decide +kernel
theorem dX2_read_16 : decode cX2_read 16 = .ok (.iconst 0, 1) := by decide +kernel
theorem dX2_read_17 : decode cX2_read 17 = .ok (.invokevirtual 40, 3) := by decide +kernel
theorem dX2_read_20 : decode cX2_read 20 = .ok (.bipush 82, 2) := by decide +kernel
theorem dX2_read_22 : decode cX2_read 22 = .ok (.if_icmp .eq 9, 3) := by decide +kernel
theorem dX2_read_25 : decode cX2_read 25 = .ok (.aload_n 0, 1) := by decide +kernel
theorem dX2_read_26 : decode cX2_read 26 = .ok (.iconst 0, 1) := by decide +kernel
theorem dX2_read_27 : decode cX2_read 27 = .ok (.putfield 37, 3) := by decide +kernel
theorem dX2_read_30 : decode cX2_read 30 = .ok (.return_, 1) := by decide +kernel
theorem dX2_read_31 : decode cX2_read 31 = .ok (.iconst 1, 1) := by decide +kernel
theorem dX2_read_32 : decode cX2_read 32 = .ok (.istore_n 1, 1) := by decide +kernel
theorem dX2_read_33 : decode cX2_read 33 = .ok (.iconst 0, 1) := by decide +kernel
theorem dX2_read_34 : decode cX2_read 34 = .ok (.istore_n 2, 1) := by decide +kernel
theorem dX2_read_35 : decode cX2_read 35 = .ok (.iload_n 2, 1) := by decide +kernel
theorem dX2_read_36 : decode cX2_read 36 = .ok (.bipush 120, 2) := by decide +kernel
theorem dX2_read_38 : decode cX2_read 38 = .ok (.if_icmp .ge 31, 3) := by decide +kernel
theorem dX2_read_41 : decode cX2_read 41 = .ok (.iload_n 1, 1) := by decide +kernel
theorem dX2_read_42 : decode cX2_read 42 = .ok (.aload_n 0, 1) := by decide +kernel
theorem dX2_read_43 : decode cX2_read 43 = .ok (.getfield 27, 3) := by decide +kernel
theorem dX2_read_46 : decode cX2_read 46 = .ok (.if_icmp .ge 23, 3) := by decide +kernel
theorem dX2_read_49 : decode cX2_read 49 = .ok (.aload_n 0, 1) := by decide +kernel
theorem dX2_read_50 : decode cX2_read 50 = .ok (.getfield 37, 3) := by decide +kernel
theorem dX2_read_53 : decode cX2_read 53 = .ok (.iconst (-1), 1) := by decide +kernel
theorem dX2_read_54 : decode cX2_read 54 = .ok (.if_icmp .ne 15, 3) := by decide +kernel
theorem dX2_read_57 : decode cX2_read 57 = .ok (.aload_n 0, 1) := by decide +kernel
theorem dX2_read_58 : decode cX2_read 58 = .ok (.iload_n 1, 1) := by decide +kernel
theorem dX2_read_59 : decode cX2_read 59 = .ok (.invokevirtual 44, 3) := by decide +kernel
theorem dX2_read_62 : decode cX2_read 62 = .ok (.istore_n 1, 1) := by decide +kernel
theorem dX2_read_63 : decode cX2_read 63 = .ok (.iinc 2 1, 3) := by decide +kernel
theorem dX2_read_66 : decode cX2_read 66 = .ok (.goto (-31), 3) := by decide +kernel
theorem dX2_read_69 : decode cX2_read 69 = .ok (.aload_n 0, 1) := by decide +kernel
theorem dX2_read_70 : decode cX2_read 70 = .ok (.getfield 37, 3) := by decide +kernel
theorem dX2_read_73 : decode cX2_read 73 = .ok (.iconst (-1), 1) := by decide +kernel
theorem dX2_read_74 : decode cX2_read 74 = .ok (.if_icmp .ne 18, 3) := by decide +kernel
theorem dX2_read_77 : decode cX2_read 77 = .ok (.aload_n 0, 1) := by decide +kernel
theorem dX2_read_78 : decode cX2_read 78 = .ok (.getfield 34, 3) := by decide +kernel
theorem dX2_read_81 : decode cX2_read 81 = .ok (.ifCond .le 11, 3) := by decide +kernel
theorem dX2_read_84 : decode cX2_read 84 = .ok (.aload_n 0, 1) := by decide +kernel
theorem dX2_read_85 : decode cX2_read 85 = .ok (.aload_n 0, 1) := by decide +kernel
theorem dX2_read_86 : decode cX2_read 86 = .ok (.getfield 27, 3) := by decide +kernel
theorem dX2_read_89 : decode cX2_read 89 = .ok (.putfield 37, 3) := by decide +kernel
theorem dX2_read_92 : decode cX2_read 92 = .ok (.return_, 1) := by decide +kernel
theorem dX2_readPart_0 : decode cX2_readPart 0 = .ok (.aload_n 0, 1) := by decide +kernel
theorem dX2_readPart_1 : decode cX2_readPart 1 = .ok (.iload_n 1, 1) := by decide +kernel
theorem dX2_readPart_2 : decode cX2_readPart 2 = .ok (.invokevirtual 40, 3) := by decide +kernel
theorem dX2_readPart_5 : decode cX2_readPart 5 = .ok (.istore_n 2, 1) := by decide +kernel
theorem dX2_readPart_6 : decode cX2_readPart 6 = .ok (.iload_n 2, 1) := by decide +kernel
theorem dX2_readPart_7 : decode cX2_readPart 7 = .ok (.bipush 41, 2) := by decide +kernel
theorem dX2_readPart_9 : decode cX2_readPart 9 = .ok (.if_icmp .ne 9, 3) := by decide +kernel
theorem dX2_readPart_12 : decode cX2_readPart 12 = .ok (.aload_n 0, 1) := by decide +kernel
theorem dX2_readPart_13 : decode cX2_readPart 13 = .ok (.iload_n 1, 1) := by decide +kernel
theorem dX2_readPart_14 : decode cX2_readPart 14 = .ok (.invokevirtual 47, 3) := by decide +kernel
theorem dX2_readPart_17 : decode cX2_readPart 17 = .ok (.ireturn, 1) := by decide +kernel
theorem dX2_readPart_18 : decode cX2_readPart 18 = .ok (.iload_n 2, 1) := by decide +kernel
theorem dX2_readPart_19 : decode cX2_readPart 19 = .ok (.bipush 50, 2) := by decide +kernel
theorem dX2_readPart_21 : decode cX2_readPart 21 = .ok (.if_icmp .lt 69, 3) := by decide +kernel
theorem dX2_readPart_24 : decode cX2_readPart 24 = .ok (.iload_n 2, 1) := by decide +kernel
theorem dX2_readPart_25 : decode cX2_readPart 25 = .ok (.bipush 57, 2) := by decide +kernel
theorem dX2_readPart_27 : decode cX2_readPart 27 = .ok (.if_icmp .gt 63, 3) := by decide +kernel
theorem dX2_readPart_30 : decode cX2_readPart 30 = .ok (.aload_n 0, 1) := by decide +kernel
theorem dX2_readPart_31 : decode cX2_readPart 31 = .ok (.getfield 34, 3) := by decide +kernel
theorem dX2_readPart_34 : decode cX2_readPart 34 = .ok (.iconst 3, 1) := by decide +kernel
theorem dX2_readPart_35 : decode cX2_readPart 35 = .ok (.if_icmp .ge 55, 3) := by decide +kernel
theorem dX2_readPart_38 : decode cX2_readPart 38 = .ok (.aload_n 0, 1) := by decide +kernel
theorem dX2_readPart_39 : decode cX2_readPart 39 = .ok (.iload_n 1, 1) := by decide +kernel
theorem dX2_readPart_40 : decode cX2_readPart 40 = .ok (.iconst 1, 1) := by decide +kernel
theorem dX2_readPart_41 : decode cX2_readPart 41 = .ok (.iadd, 1) := by decide +kernel
theorem dX2_readPart_42 : decode cX2_readPart 42 = .ok (.invokevirtual 40, 3) := by decide +kernel
theorem dX2_readPart_45 : decode cX2_readPart 45 = .ok (.bipush 40, 2) := by decide +kernel
theorem dX2_readPart_47 : decode cX2_readPart 47 = .ok (.if_icmp .ne 43, 3) := by decide +kernel
theorem dX2_readPart_50 : decode cX2_readPart 50 = .ok (.aload_n 0, 1) := by decide +kernel
theorem dX2_readPart_51 : decode cX2_readPart 51 = .ok (.getfield 21, 3) := by decide +kernel
theorem dX2_readPart_54 : decode cX2_readPart 54 = .ok (.aload_n 0, 1) := by decide +kernel
theorem dX2_readPart_55 : decode cX2_readPart 55 = .ok (.getfield 34, 3) := by decide +kernel
theorem dX2_readPart_58 : decode cX2_readPart 58 = .ok (.iload_n 2, 1) := by decide +kernel
theorem dX2_readPart_59 : decode cX2_readPart 59 = .ok (.bipush 48, 2) := by decide +kernel
theorem dX2_readPart_61 : decode cX2_readPart 61 = .ok (.isub, 1) := by decide +kernel
theorem dX2_readPart_62 : decode cX2_readPart 62 = .ok (.iastore, 1) := by decide +kernel
theorem dX2_readPart_63 : decode cX2_readPart 63 = .ok (.aload_n 0, 1) := by decide +kernel
theorem dX2_readPart_64 : decode cX2_readPart 64 = .ok (.getfield 24, 3) := by decide +kernel
theorem dX2_readPart_67 : decode cX2_readPart 67 = .ok (.aload_n 0, 1) := by decide +kernel
theorem dX2_readPart_68 : decode cX2_readPart 68 = .ok (.getfield 34, 3) := by decide +kernel
theorem dX2_readPart_71 : decode cX2_readPart 71 = .ok (.aload_n 0, 1) := by decide +kernel
theorem dX2_readPart_72 : decode cX2_readPart 72 = .ok (.getfield 31, 3) := by decide +kernel
theorem dX2_readPart_75 : decode cX2_readPart 75 = .ok (.iastore, 1) := by decide +kernel
theorem dX2_readPart_76 : decode cX2_readPart 76 = .ok (.aload_n 0, 1) := by decide +kernel
theorem dX2_readPart_77 : decode cX2_readPart 77 = .ok (.dup, 1) := by decide +kernel
theorem dX2_readPart_78 : decode cX2_readPart 78 = .ok (.getfield 34, 3) := by decide +kernel
theorem dX2_readPart_81 : decode cX2_readPart 81 = .ok (.iconst 1, 1) := by decide +kernel
theorem dX2_readPart_82 : decode cX2_readPart 82 = .ok (.iadd, 1) := by decide +kernel
theorem dX2_readPart_83 : decode cX2_readPart 83 = .ok (.putfield 34, 3) := by decide +kernel
theorem dX2_readPart_86 : decode cX2_readPart 86 = .ok (.iload_n 1, 1) := by decide +kernel
theorem dX2_readPart_87 : decode cX2_readPart 87 = .ok (.iconst 2, 1) := by decide +kernel
theorem dX2_readPart_88 : decode cX2_readPart 88 = .ok (.iadd, 1) := by decide +kernel
theorem dX2_readPart_89 : decode cX2_readPart 89 = .ok (.ireturn, 1) := by decide +kernel
theorem dX2_readPart_90 : decode cX2_readPart 90 = .ok (.iload_n 2, 1) := by decide +kernel
theorem dX2_readPart_91 : decode cX2_readPart 91 = .ok (.bipush 48, 2) := by decide +kernel
theorem dX2_readPart_93 : decode cX2_readPart 93 = .ok (.if_icmp .lt 15, 3) := by decide +kernel
theorem dX2_readPart_96 : decode cX2_readPart 96 = .ok (.iload_n 2, 1) := by decide +kernel
theorem dX2_readPart_97 : decode cX2_readPart 97 = .ok (.bipush 54, 2) := by decide +kernel
theorem dX2_readPart_99 : decode cX2_readPart 99 = .ok (.if_icmp .gt 9, 3) := by decide +kernel
theorem dX2_readPart_102 : decode cX2_readPart 102 = .ok (.aload_n 0, 1) := by decide +kernel
theorem dX2_readPart_103 : decode cX2_readPart 103 = .ok (.iload_n 1, 1) := by decide +kernel
theorem dX2_readPart_104 : decode cX2_readPart 104 = .ok (.invokevirtual 50, 3) := by decide +kernel
theorem dX2_readPart_107 : decode cX2_readPart 107 = .ok (.ireturn, 1) := by decide +kernel
theorem dX2_readPart_108 : decode cX2_readPart 108 = .ok (.iload_n 2, 1) := by decide +kernel
theorem dX2_readPart_109 : decode cX2_readPart 109 = .ok (.bipush 55, 2) := by decide +kernel
theorem dX2_readPart_111 : decode cX2_readPart 111 = .ok (.if_icmp .lt 21, 3) := by decide +kernel
theorem dX2_readPart_114 : decode cX2_readPart 114 = .ok (.iload_n 2, 1) := by decide +kernel
theorem dX2_readPart_115 : decode cX2_readPart 115 = .ok (.bipush 57, 2) := by decide +kernel
theorem dX2_readPart_117 : decode cX2_readPart 117 = .ok (.if_icmp .gt 15, 3) := by decide +kernel
theorem dX2_readPart_120 : decode cX2_readPart 120 = .ok (.aload_n 0, 1) := by decide +kernel
theorem dX2_readPart_121 : decode cX2_readPart 121 = .ok (.getfield 34, 3) := by decide +kernel
theorem dX2_readPart_124 : decode cX2_readPart 124 = .ok (.iconst 3, 1) := by decide +kernel
theorem dX2_readPart_125 : decode cX2_readPart 125 = .ok (.if_icmp .ge 7, 3) := by decide +kernel
theorem dX2_readPart_128 : decode cX2_readPart 128 = .ok (.iconst 1, 1) := by decide +kernel
theorem dX2_readPart_129 : decode cX2_readPart 129 = .ok (.goto 4, 3) := by decide +kernel
theorem dX2_readPart_132 : decode cX2_readPart 132 = .ok (.iconst 0, 1) := by decide +kernel
theorem dX2_readPart_133 : decode cX2_readPart 133 = .ok (.istore_n 3, 1) := by decide +kernel
theorem dX2_readPart_134 : decode cX2_readPart 134 = .ok (.aload_n 0, 1) := by decide +kernel
theorem dX2_readPart_135 : decode cX2_readPart 135 = .ok (.iload_n 3, 1) := by decide +kernel
theorem dX2_readPart_136 : decode cX2_readPart 136 = .ok (.ifCond .eq 9, 3) := by decide +kernel
theorem dX2_readPart_139 : decode cX2_readPart 139 = .ok (.iload_n 1, 1) := by decide +kernel
theorem dX2_readPart_140 : decode cX2_readPart 140 = .ok (.iconst 1, 1) := by decide +kernel
theorem dX2_readPart_141 : decode cX2_readPart 141 = .ok (.iadd, 1) := by decide +kernel
theorem dX2_readPart_142 : decode cX2_readPart 142 = .ok (.goto 4, 3) := by decide +kernel
theorem dX2_readPart_145 : decode cX2_readPart 145 = .ok (.iload_n 1, 1) := by decide +kernel
theorem dX2_readPart_146 : decode cX2_readPart 146 = .ok (.putfield 37, 3) := by decide +kernel
theorem dX2_readPart_149 : decode cX2_readPart 149 = .ok (.iload_n 1, 1) := by decide +kernel
theorem dX2_readPart_150 : decode cX2_readPart 150 = .ok (.ireturn, 1) := by decide +kernel
theorem dX2_closeRepeat_0 : decode cX2_closeRepeat 0 = .ok (.aload_n 0, 1) := by decide +kernel
theorem dX2_closeRepeat_1 : decode cX2_closeRepeat 1 = .ok (.getfield 34, 3) := by decide +kernel
theorem dX2_closeRepeat_4 : decode cX2_closeRepeat 4 = .ok (.ifCond .le 23, 3) := by decide +kernel
theorem dX2_closeRepeat_7 : decode cX2_closeRepeat 7 = .ok (.aload_n 0, 1) := by decide +kernel
theorem dX2_closeRepeat_8 : decode cX2_closeRepeat 8 = .ok (.getfield 31, 3) := by decide +kernel
theorem dX2_closeRepeat_11 : decode cX2_closeRepeat 11 = .ok (.aload_n 0, 1) := by decide +kernel
theorem dX2_closeRepeat_12 : decode cX2_closeRepeat 12 = .ok (.getfield 24, 3) := by decide +kernel
theorem dX2_closeRepeat_15 : decode cX2_closeRepeat 15 = .ok (.aload_n 0, 1) := by decide +kernel
theorem dX2_closeRepeat_16 : decode cX2_closeRepeat 16 = .ok (.getfield 34, 3) := by decide +kernel
theorem dX2_closeRepeat_19 : decode cX2_closeRepeat 19 = .ok (.iconst 1, 1) := by decide +kernel
theorem dX2_closeRepeat_20 : decode cX2_closeRepeat 20 = .ok (.isub, 1) := by decide +kernel
theorem dX2_closeRepeat_21 : decode cX2_closeRepeat 21 = .ok (.invokestatic 53, 3) := by decide +kernel
theorem dX2_closeRepeat_24 : decode cX2_closeRepeat 24 = .ok (.if_icmp .ne 10, 3) := by decide +kernel
theorem dX2_closeRepeat_27 : decode cX2_closeRepeat 27 = .ok (.aload_n 0, 1) := by decide +kernel
theorem dX2_closeRepeat_28 : decode cX2_closeRepeat 28 = .ok (.iload_n 1, 1) := by decide +kernel
theorem dX2_closeRepeat_29 : decode cX2_closeRepeat 29 = .ok (.putfield 37, 3) := by decide +kernel
theorem dX2_closeRepeat_32 : decode cX2_closeRepeat 32 = .ok (.iload_n 1, 1) := by decide +kernel
theorem dX2_closeRepeat_33 : decode cX2_closeRepeat 33 = .ok (.ireturn, 1) := by decide +kernel
theorem dX2_closeRepeat_34 : decode cX2_closeRepeat 34 = .ok (.aload_n 0, 1) := by decide +kernel
theorem dX2_closeRepeat_35 : decode cX2_closeRepeat 35 = .ok (.dup, 1) := by decide +kernel
theorem dX2_closeRepeat_36 : decode cX2_closeRepeat 36 = .ok (.getfield 34, 3) := by decide +kernel
theorem dX2_closeRepeat_39 : decode cX2_closeRepeat 39 = .ok (.iconst 1, 1) := by decide +kernel
theorem dX2_closeRepeat_40 : decode cX2_closeRepeat 40 = .ok (.isub, 1) := by decide +kernel
theorem dX2_closeRepeat_41 : decode cX2_closeRepeat 41 = .ok (.putfield 34, 3) := by decide +kernel
theorem dX2_closeRepeat_44 : decode cX2_closeRepeat 44 = .ok (.aload_n 0, 1) := by decide +kernel
theorem dX2_closeRepeat_45 : decode cX2_closeRepeat 45 = .ok (.getfield 31, 3) := by decide +kernel
theorem dX2_closeRepeat_48 : decode cX2_closeRepeat 48 = .ok (.aload_n 0, 1) := by decide +kernel
theorem dX2_closeRepeat_49 : decode cX2_closeRepeat 49 = .ok (.getfield 24, 3) := by decide +kernel
theorem dX2_closeRepeat_52 : decode cX2_closeRepeat 52 = .ok (.aload_n 0, 1) := by decide +kernel
theorem dX2_closeRepeat_53 : decode cX2_closeRepeat 53 = .ok (.getfield 34, 3) := by decide +kernel
theorem dX2_closeRepeat_56 : decode cX2_closeRepeat 56 = .ok (.invokestatic 53, 3) := by decide +kernel
theorem dX2_closeRepeat_59 : decode cX2_closeRepeat 59 = .ok (.isub, 1) := by decide +kernel
theorem dX2_closeRepeat_60 : decode cX2_closeRepeat 60 = .ok (.istore_n 2, 1) := by decide +kernel
theorem dX2_closeRepeat_61 : decode cX2_closeRepeat 61 = .ok (.aload_n 0, 1) := by decide +kernel
theorem dX2_closeRepeat_62 : decode cX2_closeRepeat 62 = .ok (.getfield 31, 3) := by decide +kernel
theorem dX2_closeRepeat_65 : decode cX2_closeRepeat 65 = .ok (.iload_n 2, 1) := by decide +kernel
theorem dX2_closeRepeat_66 : decode cX2_closeRepeat 66 = .ok (.aload_n 0, 1) := by decide +kernel
theorem dX2_closeRepeat_67 : decode cX2_closeRepeat 67 = .ok (.getfield 21, 3) := by decide +kernel
theorem dX2_closeRepeat_70 : decode cX2_closeRepeat 70 = .ok (.aload_n 0, 1) := by decide +kernel
theorem dX2_closeRepeat_71 : decode cX2_closeRepeat 71 = .ok (.getfield 34, 3) := by decide +kernel
theorem dX2_closeRepeat_74 : decode cX2_closeRepeat 74 = .ok (.invokestatic 53, 3) := by decide +kernel
theorem dX2_closeRepeat_77 : decode cX2_closeRepeat 77 = .ok (.iconst 1, 1) := by decide +kernel
theorem dX2_closeRepeat_78 : decode cX2_closeRepeat 78 = .ok (.isub, 1) := by decide +kernel
theorem dX2_closeRepeat_79 : decode cX2_closeRepeat 79 = .ok (.imul, 1) := by decide +kernel
theorem dX2_closeRepeat_80 : decode cX2_closeRepeat 80 = .ok (.iadd, 1) := by decide +kernel
theorem dX2_closeRepeat_81 : decode cX2_closeRepeat 81 = .ok (.istore_n 3, 1) := by decide +kernel
theorem dX2_closeRepeat_82 : decode cX2_closeRepeat 82 = .ok (.aload_n 0, 1) := by decide +kernel
theorem dX2_closeRepeat_83 : decode cX2_closeRepeat 83 = .ok (.getfield 31, 3) := by decide +kernel
theorem dX2_closeRepeat_86 : decode cX2_closeRepeat 86 = .ok (.istore 4, 2) := by decide +kernel
theorem dX2_closeRepeat_88 : decode cX2_closeRepeat 88 = .ok (.iload 4, 2) := by decide +kernel
theorem dX2_closeRepeat_90 : decode cX2_closeRepeat 90 = .ok (.iload_n 3, 1) := by decide +kernel
theorem dX2_closeRepeat_91 : decode cX2_closeRepeat 91 = .ok (.if_icmp .ge 52, 3) := by decide +kernel
theorem dX2_closeRepeat_94 : decode cX2_closeRepeat 94 = .ok (.iload 4, 2) := by decide +kernel
theorem dX2_closeRepeat_96 : decode cX2_closeRepeat 96 = .ok (.bipush 30, 2) := by decide +kernel
theorem dX2_closeRepeat_98 : decode cX2_closeRepeat 98 = .ok (.if_icmp .ge 45, 3) := by decide +kernel
theorem dX2_closeRepeat_101 : decode cX2_closeRepeat 101 = .ok (.aload_n 0, 1) := by decide +kernel
theorem dX2_closeRepeat_102 : decode cX2_closeRepeat 102 = .ok (.getfield 15, 3) := by decide +kernel
theorem dX2_closeRepeat_105 : decode cX2_closeRepeat 105 = .ok (.iload 4, 2) := by decide +kernel
theorem dX2_closeRepeat_107 : decode cX2_closeRepeat 107 = .ok (.aload_n 0, 1) := by decide +kernel
theorem dX2_closeRepeat_108 : decode cX2_closeRepeat 108 = .ok (.getfield 15, 3) := by decide +kernel
theorem dX2_closeRepeat_111 : decode cX2_closeRepeat 111 = .ok (.iload 4, 2) := by decide +kernel
theorem dX2_closeRepeat_113 : decode cX2_closeRepeat 113 = .ok (.iload_n 2, 1) := by decide +kernel
theorem dX2_closeRepeat_114 : decode cX2_closeRepeat 114 = .ok (.isub, 1) := by decide +kernel
theorem dX2_closeRepeat_115 : decode cX2_closeRepeat 115 = .ok (.invokestatic 53, 3) := by decide +kernel
theorem dX2_closeRepeat_118 : decode cX2_closeRepeat 118 = .ok (.iastore, 1) := by decide +kernel
theorem dX2_closeRepeat_119 : decode cX2_closeRepeat 119 = .ok (.aload_n 0, 1) := by decide +kernel
theorem dX2_closeRepeat_120 : decode cX2_closeRepeat 120 = .ok (.getfield 18, 3) := by decide +kernel
theorem dX2_closeRepeat_123 : decode cX2_closeRepeat 123 = .ok (.iload 4, 2) := by decide +kernel
theorem dX2_closeRepeat_125 : decode cX2_closeRepeat 125 = .ok (.aload_n 0, 1) := by decide +kernel
theorem dX2_closeRepeat_126 : decode cX2_closeRepeat 126 = .ok (.getfield 18, 3) := by decide +kernel
theorem dX2_closeRepeat_129 : decode cX2_closeRepeat 129 = .ok (.iload 4, 2) := by decide +kernel
theorem dX2_closeRepeat_131 : decode cX2_closeRepeat 131 = .ok (.iload_n 2, 1) := by decide +kernel
theorem dX2_closeRepeat_132 : decode cX2_closeRepeat 132 = .ok (.isub, 1) := by decide +kernel
theorem dX2_closeRepeat_133 : decode cX2_closeRepeat 133 = .ok (.invokestatic 53, 3) := by decide +kernel
theorem dX2_closeRepeat_136 : decode cX2_closeRepeat 136 = .ok (.iastore, 1) := by decide +kernel
theorem dX2_closeRepeat_137 : decode cX2_closeRepeat 137 = .ok (.iinc 4 1, 3) := by decide +kernel
theorem dX2_closeRepeat_140 : decode cX2_closeRepeat 140 = .ok (.goto (-52), 3) := by decide +kernel
theorem dX2_closeRepeat_143 : decode cX2_closeRepeat 143 = .ok (.aload_n 0, 1) := by decide +kernel
theorem dX2_closeRepeat_144 : decode cX2_closeRepeat 144 = .ok (.iload_n 3, 1) := by decide +kernel
theorem dX2_closeRepeat_145 : decode cX2_closeRepeat 145 = .ok (.putfield 31, 3) := by decide +kernel
theorem dX2_closeRepeat_148 : decode cX2_closeRepeat 148 = .ok (.iload_n 1, 1) := by decide +kernel
theorem dX2_closeRepeat_149 : decode cX2_closeRepeat 149 = .ok (.iconst 1, 1) := by decide +kernel
theorem dX2_closeRepeat_150 : decode cX2_closeRepeat 150 = .ok (.iadd, 1) := by decide +kernel
theorem dX2_closeRepeat_151 : decode cX2_closeRepeat 151 = .ok (.ireturn, 1) := by decide +kernel
theorem dX2_readAxle_0 : decode cX2_readAxle 0 = .ok (.aload_n 0, 1) := by decide +kernel
theorem dX2_readAxle_1 : decode cX2_readAxle 1 = .ok (.iload_n 1, 1) := by decide +kernel
theorem dX2_readAxle_2 : decode cX2_readAxle 2 = .ok (.bipush 60, 2) := by decide +kernel
theorem dX2_readAxle_4 : decode cX2_readAxle 4 = .ok (.invokevirtual 57, 3) := by decide +kernel
theorem dX2_readAxle_7 : decode cX2_readAxle 7 = .ok (.istore_n 2, 1) := by decide +kernel
theorem dX2_readAxle_8 : decode cX2_readAxle 8 = .ok (.aload_n 0, 1) := by decide +kernel
theorem dX2_readAxle_9 : decode cX2_readAxle 9 = .ok (.getfield 37, 3) := by decide +kernel
theorem dX2_readAxle_12 : decode cX2_readAxle 12 = .ok (.iconst (-1), 1) := by decide +kernel
theorem dX2_readAxle_13 : decode cX2_readAxle 13 = .ok (.if_icmp .eq 5, 3) := by decide +kernel
theorem dX2_readAxle_16 : decode cX2_readAxle 16 = .ok (.iload_n 1, 1) := by decide +kernel
theorem dX2_readAxle_17 : decode cX2_readAxle 17 = .ok (.ireturn, 1) := by decide +kernel
theorem dX2_readAxle_18 : decode cX2_readAxle 18 = .ok (.aload_n 0, 1) := by decide +kernel
theorem dX2_readAxle_19 : decode cX2_readAxle 19 = .ok (.iload_n 1, 1) := by decide +kernel
theorem dX2_readAxle_20 : decode cX2_readAxle 20 = .ok (.iconst 2, 1) := by decide +kernel
theorem dX2_readAxle_21 : decode cX2_readAxle 21 = .ok (.iadd, 1) := by decide +kernel
theorem dX2_readAxle_22 : decode cX2_readAxle 22 = .ok (.bipush 99, 2) := by decide +kernel
theorem dX2_readAxle_24 : decode cX2_readAxle 24 = .ok (.invokevirtual 57, 3) := by decide +kernel
theorem dX2_readAxle_27 : decode cX2_readAxle 27 = .ok (.istore_n 3, 1) := by decide +kernel
theorem dX2_readAxle_28 : decode cX2_readAxle 28 = .ok (.aload_n 0, 1) := by decide +kernel
theorem dX2_readAxle_29 : decode cX2_readAxle 29 = .ok (.getfield 37, 3) := by decide +kernel
theorem dX2_readAxle_32 : decode cX2_readAxle 32 = .ok (.iconst (-1), 1) := by decide +kernel
theorem dX2_readAxle_33 : decode cX2_readAxle 33 = .ok (.if_icmp .eq 5, 3) := by decide +kernel
theorem dX2_readAxle_36 : decode cX2_readAxle 36 = .ok (.iload_n 1, 1) := by decide +kernel
theorem dX2_readAxle_37 : decode cX2_readAxle 37 = .ok (.ireturn, 1) := by decide +kernel
theorem dX2_readAxle_38 : decode cX2_readAxle 38 = .ok (.aload_n 0, 1) := by decide +kernel
theorem dX2_readAxle_39 : decode cX2_readAxle 39 = .ok (.getfield 31, 3) := by decide +kernel
theorem dX2_readAxle_42 : decode cX2_readAxle 42 = .ok (.ifCond .lt 32, 3) := by decide +kernel
theorem dX2_readAxle_45 : decode cX2_readAxle 45 = .ok (.aload_n 0, 1) := by decide +kernel
theorem dX2_readAxle_46 : decode cX2_readAxle 46 = .ok (.getfield 31, 3) := by decide +kernel
theorem dX2_readAxle_49 : decode cX2_readAxle 49 = .ok (.bipush 30, 2) := by decide +kernel
theorem dX2_readAxle_51 : decode cX2_readAxle 51 = .ok (.if_icmp .ge 23, 3) := by decide +kernel
theorem dX2_readAxle_54 : decode cX2_readAxle 54 = .ok (.aload_n 0, 1) := by decide +kernel
theorem dX2_readAxle_55 : decode cX2_readAxle 55 = .ok (.getfield 15, 3) := by decide +kernel
theorem dX2_readAxle_58 : decode cX2_readAxle 58 = .ok (.aload_n 0, 1) := by decide +kernel
theorem dX2_readAxle_59 : decode cX2_readAxle 59 = .ok (.getfield 31, 3) := by decide +kernel
theorem dX2_readAxle_62 : decode cX2_readAxle 62 = .ok (.iload_n 2, 1) := by decide +kernel
theorem dX2_readAxle_63 : decode cX2_readAxle 63 = .ok (.iastore, 1) := by decide +kernel
theorem dX2_readAxle_64 : decode cX2_readAxle 64 = .ok (.aload_n 0, 1) := by decide +kernel
theorem dX2_readAxle_65 : decode cX2_readAxle 65 = .ok (.getfield 18, 3) := by decide +kernel
theorem dX2_readAxle_68 : decode cX2_readAxle 68 = .ok (.aload_n 0, 1) := by decide +kernel
theorem dX2_readAxle_69 : decode cX2_readAxle 69 = .ok (.getfield 31, 3) := by decide +kernel
theorem dX2_readAxle_72 : decode cX2_readAxle 72 = .ok (.iload_n 3, 1) := by decide +kernel
theorem dX2_readAxle_73 : decode cX2_readAxle 73 = .ok (.iastore, 1) := by decide +kernel
theorem dX2_readAxle_74 : decode cX2_readAxle 74 = .ok (.aload_n 0, 1) := by decide +kernel
theorem dX2_readAxle_75 : decode cX2_readAxle 75 = .ok (.dup, 1) := by decide +kernel
theorem dX2_readAxle_76 : decode cX2_readAxle 76 = .ok (.getfield 31, 3) := by decide +kernel
theorem dX2_readAxle_79 : decode cX2_readAxle 79 = .ok (.iconst 1, 1) := by decide +kernel
theorem dX2_readAxle_80 : decode cX2_readAxle 80 = .ok (.iadd, 1) := by decide +kernel
theorem dX2_readAxle_81 : decode cX2_readAxle 81 = .ok (.putfield 31, 3) := by decide +kernel
theorem dX2_readAxle_84 : decode cX2_readAxle 84 = .ok (.iload_n 1, 1) := by decide +kernel
theorem dX2_readAxle_85 : decode cX2_readAxle 85 = .ok (.iconst 4, 1) := by decide +kernel
theorem dX2_readAxle_86 : decode cX2_readAxle 86 = .ok (.iadd, 1) := by decide +kernel
theorem dX2_readAxle_87 : decode cX2_readAxle 87 = .ok (.ireturn, 1) := by decide +kernel
theorem dX2_readNumber_0 : decode cX2_readNumber 0 = .ok (.aload_n 0, 1) := by decide +kernel
theorem dX2_readNumber_1 : decode cX2_readNumber 1 = .ok (.iload_n 1, 1) := by decide +kernel
theorem dX2_readNumber_2 : decode cX2_readNumber 2 = .ok (.invokevirtual 61, 3) := by decide +kernel
theorem dX2_readNumber_5 : decode cX2_readNumber 5 = .ok (.istore_n 3, 1) := by decide +kernel
theorem dX2_readNumber_6 : decode cX2_readNumber 6 = .ok (.iload_n 3, 1) := by decide +kernel
theorem dX2_readNumber_7 : decode cX2_readNumber 7 = .ok (.iconst (-1), 1) := by decide +kernel
theorem dX2_readNumber_8 : decode cX2_readNumber 8 = .ok (.if_icmp .eq 11, 3) := by decide +kernel
theorem dX2_readNumber_11 : decode cX2_readNumber 11 = .ok (.bipush 10, 2) := by decide +kernel
theorem dX2_readNumber_13 : decode cX2_readNumber 13 = .ok (.iload_n 3, 1) := by decide +kernel
theorem dX2_readNumber_14 : decode cX2_readNumber 14 = .ok (.imul, 1) := by decide +kernel
theorem dX2_readNumber_15 : decode cX2_readNumber 15 = .ok (.iload_n 2, 1) := by decide +kernel
theorem dX2_readNumber_16 : decode cX2_readNumber 16 = .ok (.if_icmp .le 10, 3) := by decide +kernel
theorem dX2_readNumber_19 : decode cX2_readNumber 19 = .ok (.aload_n 0, 1) := by decide +kernel
theorem dX2_readNumber_20 : decode cX2_readNumber 20 = .ok (.iload_n 1, 1) := by decide +kernel
theorem dX2_readNumber_21 : decode cX2_readNumber 21 = .ok (.putfield 37, 3) := by decide +kernel
theorem dX2_readNumber_24 : decode cX2_readNumber 24 = .ok (.iconst 0, 1) := by decide +kernel
theorem dX2_readNumber_25 : decode cX2_readNumber 25 = .ok (.ireturn, 1) := by decide +kernel
theorem dX2_readNumber_26 : decode cX2_readNumber 26 = .ok (.aload_n 0, 1) := by decide +kernel
theorem dX2_readNumber_27 : decode cX2_readNumber 27 = .ok (.iload_n 1, 1) := by decide +kernel
theorem dX2_readNumber_28 : decode cX2_readNumber 28 = .ok (.iconst 1, 1) := by decide +kernel
theorem dX2_readNumber_29 : decode cX2_readNumber 29 = .ok (.iadd, 1) := by decide +kernel
theorem dX2_readNumber_30 : decode cX2_readNumber 30 = .ok (.invokevirtual 61, 3) := by decide +kernel
theorem dX2_readNumber_33 : decode cX2_readNumber 33 = .ok (.istore 4, 2) := by decide +kernel
theorem dX2_readNumber_35 : decode cX2_readNumber 35 = .ok (.bipush 10, 2) := by decide +kernel
theorem dX2_readNumber_37 : decode cX2_readNumber 37 = .ok (.iload_n 3, 1) := by decide +kernel
theorem dX2_readNumber_38 : decode cX2_readNumber 38 = .ok (.imul, 1) := by decide +kernel
theorem dX2_readNumber_39 : decode cX2_readNumber 39 = .ok (.iload 4, 2) := by decide +kernel
theorem dX2_readNumber_41 : decode cX2_readNumber 41 = .ok (.iadd, 1) := by decide +kernel
theorem dX2_readNumber_42 : decode cX2_readNumber 42 = .ok (.istore 5, 2) := by decide +kernel
theorem dX2_readNumber_44 : decode cX2_readNumber 44 = .ok (.iload 4, 2) := by decide +kernel
theorem dX2_readNumber_46 : decode cX2_readNumber 46 = .ok (.iconst (-1), 1) := by decide +kernel
theorem dX2_readNumber_47 : decode cX2_readNumber 47 = .ok (.if_icmp .eq 15, 3) := by decide +kernel
theorem dX2_readNumber_50 : decode cX2_readNumber 50 = .ok (.iload 5, 2) := by decide +kernel
theorem dX2_readNumber_52 : decode cX2_readNumber 52 = .ok (.iconst 1, 1) := by decide +kernel
theorem dX2_readNumber_53 : decode cX2_readNumber 53 = .ok (.if_icmp .lt 9, 3) := by decide +kernel
theorem dX2_readNumber_56 : decode cX2_readNumber 56 = .ok (.iload 5, 2) := by decide +kernel
theorem dX2_readNumber_58 : decode cX2_readNumber 58 = .ok (.iload_n 2, 1) := by decide +kernel
theorem dX2_readNumber_59 : decode cX2_readNumber 59 = .ok (.if_icmp .le 12, 3) := by decide +kernel
theorem dX2_readNumber_62 : decode cX2_readNumber 62 = .ok (.aload_n 0, 1) := by decide +kernel
theorem dX2_readNumber_63 : decode cX2_readNumber 63 = .ok (.iload_n 1, 1) := by decide +kernel
theorem dX2_readNumber_64 : decode cX2_readNumber 64 = .ok (.iconst 1, 1) := by decide +kernel
theorem dX2_readNumber_65 : decode cX2_readNumber 65 = .ok (.iadd, 1) := by decide +kernel
theorem dX2_readNumber_66 : decode cX2_readNumber 66 = .ok (.putfield 37, 3) := by decide +kernel
theorem dX2_readNumber_69 : decode cX2_readNumber 69 = .ok (.iconst 0, 1) := by decide +kernel
theorem dX2_readNumber_70 : decode cX2_readNumber 70 = .ok (.ireturn, 1) := by decide +kernel
theorem dX2_readNumber_71 : decode cX2_readNumber 71 = .ok (.iload 5, 2) := by decide +kernel
theorem dX2_readNumber_73 : decode cX2_readNumber 73 = .ok (.ireturn, 1) := by decide +kernel
theorem dX2_characterAt_0 : decode cX2_characterAt 0 = .ok (.iload_n 1, 1) := by decide +kernel
theorem dX2_characterAt_1 : decode cX2_characterAt 1 = .ok (.ifCond .lt 21, 3) := by decide +kernel
theorem dX2_characterAt_4 : decode cX2_characterAt 4 = .ok (.iload_n 1, 1) := by decide +kernel
theorem dX2_characterAt_5 : decode cX2_characterAt 5 = .ok (.aload_n 0, 1) := by decide +kernel
theorem dX2_characterAt_6 : decode cX2_characterAt 6 = .ok (.getfield 27, 3) := by decide +kernel
theorem dX2_characterAt_9 : decode cX2_characterAt 9 = .ok (.if_icmp .ge 13, 3) := by decide +kernel
theorem dX2_characterAt_12 : decode cX2_characterAt 12 = .ok (.iload_n 1, 1) := by decide +kernel
theorem dX2_characterAt_13 : decode cX2_characterAt 13 = .ok (.bipush 120, 2) := by decide +kernel
theorem dX2_characterAt_15 : decode cX2_characterAt 15 = .ok (.if_icmp .ge 7, 3) := by decide +kernel
theorem dX2_characterAt_18 : decode cX2_characterAt 18 = .ok (.iconst 1, 1) := by decide +kernel
theorem dX2_characterAt_19 : decode cX2_characterAt 19 = .ok (.goto 4, 3) := by decide +kernel
theorem dX2_characterAt_22 : decode cX2_characterAt 22 = .ok (.iconst 0, 1) := by decide +kernel
theorem dX2_characterAt_23 : decode cX2_characterAt 23 = .ok (.istore_n 2, 1) := by decide +kernel
theorem dX2_characterAt_24 : decode cX2_characterAt 24 = .ok (.iload_n 2, 1) := by decide +kernel
theorem dX2_characterAt_25 : decode cX2_characterAt 25 = .ok (.ifCond .eq 12, 3) := by decide +kernel
theorem dX2_characterAt_28 : decode cX2_characterAt 28 = .ok (.aload_n 0, 1) := by decide +kernel
theorem dX2_characterAt_29 : decode cX2_characterAt 29 = .ok (.getfield 9, 3) := by decide +kernel
theorem dX2_characterAt_32 : decode cX2_characterAt 32 = .ok (.iload_n 1, 1) := by decide +kernel
theorem dX2_characterAt_33 : decode cX2_characterAt 33 = .ok (.iaload, 1) := by decide +kernel
theorem dX2_characterAt_34 : decode cX2_characterAt 34 = .ok (.goto 4, 3) := by decide +kernel
theorem dX2_characterAt_37 : decode cX2_characterAt 37 = .ok (.iconst (-1), 1) := by decide +kernel
theorem dX2_characterAt_38 : decode cX2_characterAt 38 = .ok (.ireturn, 1) := by decide +kernel
theorem dX2_digitAt_0 : decode cX2_digitAt 0 = .ok (.aload_n 0, 1) := by decide +kernel
theorem dX2_digitAt_1 : decode cX2_digitAt 1 = .ok (.iload_n 1, 1) := by decide +kernel
theorem dX2_digitAt_2 : decode cX2_digitAt 2 = .ok (.invokevirtual 40, 3) := by decide +kernel
theorem dX2_digitAt_5 : decode cX2_digitAt 5 = .ok (.istore_n 2, 1) := by decide +kernel
theorem dX2_digitAt_6 : decode cX2_digitAt 6 = .ok (.iload_n 2, 1) := by decide +kernel
theorem dX2_digitAt_7 : decode cX2_digitAt 7 = .ok (.bipush 48, 2) := by decide +kernel
theorem dX2_digitAt_9 : decode cX2_digitAt 9 = .ok (.if_icmp .lt 16, 3) := by decide +kernel
theorem dX2_digitAt_12 : decode cX2_digitAt 12 = .ok (.iload_n 2, 1) := by decide +kernel
theorem dX2_digitAt_13 : decode cX2_digitAt 13 = .ok (.bipush 57, 2) := by decide +kernel
theorem dX2_digitAt_15 : decode cX2_digitAt 15 = .ok (.if_icmp .gt 10, 3) := by decide +kernel
theorem dX2_digitAt_18 : decode cX2_digitAt 18 = .ok (.iload_n 2, 1) := by decide +kernel
theorem dX2_digitAt_19 : decode cX2_digitAt 19 = .ok (.bipush 48, 2) := by decide +kernel
theorem dX2_digitAt_21 : decode cX2_digitAt 21 = .ok (.isub, 1) := by decide +kernel
theorem dX2_digitAt_22 : decode cX2_digitAt 22 = .ok (.goto 4, 3) := by decide +kernel
theorem dX2_digitAt_25 : decode cX2_digitAt 25 = .ok (.iconst (-1), 1) := by decide +kernel
theorem dX2_digitAt_26 : decode cX2_digitAt 26 = .ok (.ireturn, 1) := by decide +kernel
theorem dX3_init_0 : decode cX3_init 0 = .ok (.aload_n 0, 1) := by decide +kernel
theorem dX3_init_1 : decode cX3_init 1 = .ok (.invokespecial 1, 3) := by decide +kernel
theorem dX3_init_4 : decode cX3_init 4 = .ok (.aload_n 0, 1) := by decide +kernel
theorem dX3_init_5 : decode cX3_init 5 = .ok (.new 7, 3) := by decide +kernel
theorem dX3_init_8 : decode cX3_init 8 = .ok (.dup, 1) := by decide +kernel
theorem dX3_init_9 : decode cX3_init 9 = .ok (.invokespecial 9, 3) := by decide +kernel
theorem dX3_init_12 : decode cX3_init 12 = .ok (.putfield 10, 3) := by decide +kernel
theorem dX3_init_15 : decode cX3_init 15 = .ok (.aload_n 0, 1) := by decide +kernel
theorem dX3_init_16 : decode cX3_init 16 = .ok (.new 16, 3) := by decide +kernel
theorem dX3_init_19 : decode cX3_init 19 = .ok (.dup, 1) := by decide +kernel
theorem dX3_init_20 : decode cX3_init 20 = .ok (.invokespecial 18, 3) := by decide +kernel
theorem dX3_init_23 : decode cX3_init 23 = .ok (.putfield 19, 3) := by decide +kernel
theorem dX3_init_26 : decode cX3_init 26 = .ok (.aload_n 0, 1) := by decide +kernel
theorem dX3_init_27 : decode cX3_init 27 = .ok (.new 16, 3) := by decide +kernel
theorem dX3_init_30 : decode cX3_init 30 = .ok (.dup, 1) := by decide +kernel
theorem dX3_init_31 : decode cX3_init 31 = .ok (.invokespecial 18, 3) := by decide +kernel
theorem dX3_init_34 : decode cX3_init 34 = .ok (.putfield 23, 3) := by decide +kernel
theorem dX3_init_37 : decode cX3_init 37 = .ok (.aload_n 0, 1) := by decide +kernel
theorem dX3_init_38 : decode cX3_init 38 = .ok (.new 26, 3) := by decide +kernel
theorem dX3_init_41 : decode cX3_init 41 = .ok (.dup, 1) := by decide +kernel
theorem dX3_init_42 : decode cX3_init 42 = .ok (.invokespecial 28, 3) := by decide +kernel
theorem dX3_init_45 : decode cX3_init 45 = .ok (.putfield 29, 3) := by decide +kernel
theorem dX3_init_48 : decode cX3_init 48 = .ok (.aload_n 0, 1) := by decide +kernel
theorem dX3_init_49 : decode cX3_init 49 = .ok (.bipush 14, 2) := by decide +kernel
theorem dX3_init_51 : decode cX3_init 51 = .ok (.anewarray 16, 3) := by decide +kernel
theorem dX3_init_54 : decode cX3_init 54 = .ok (.putfield 33, 3) := by decide +kernel
theorem dX3_init_57 : decode cX3_init 57 = .ok (.iconst 0, 1) := by decide +kernel
theorem dX3_init_58 : decode cX3_init 58 = .ok (.istore_n 1, 1) := by decide +kernel
theorem dX3_init_59 : decode cX3_init 59 = .ok (.iload_n 1, 1) := by decide +kernel
theorem dX3_init_60 : decode cX3_init 60 = .ok (.bipush 14, 2) := by decide +kernel
theorem dX3_init_62 : decode cX3_init 62 = .ok (.if_icmp .ge 22, 3) := by decide +kernel
theorem dX3_init_65 : decode cX3_init 65 = .ok (.aload_n 0, 1) := by decide +kernel
theorem dX3_init_66 : decode cX3_init 66 = .ok (.getfield 33, 3) := by decide +kernel
theorem dX3_init_69 : decode cX3_init 69 = .ok (.iload_n 1, 1) := by decide +kernel
theorem dX3_init_70 : decode cX3_init 70 = .ok (.new 16, 3) := by decide +kernel
theorem dX3_init_73 : decode cX3_init 73 = .ok (.dup, 1) := by decide +kernel
theorem dX3_init_74 : decode cX3_init 74 = .ok (.invokespecial 18, 3) := by decide +kernel
theorem dX3_init_77 : decode cX3_init 77 = .ok (.aastore, 1) := by decide +kernel
theorem dX3_init_78 : decode cX3_init 78 = .ok (.iinc 1 1, 3) := by decide +kernel
theorem dX3_init_81 : decode cX3_init 81 = .ok (.goto (-22), 3) := by decide +kernel
theorem dX3_init_84 : decode cX3_init 84 = .ok (.aload_n 0, 1) := by decide +kernel
theorem dX3_init_85 : decode cX3_init 85 = .ok (.iconst 2, 1) := by decide +kernel
theorem dX3_init_86 : decode cX3_init 86 = .ok (.anewarray 16, 3) := by decide +kernel
theorem dX3_init_89 : decode cX3_init 89 = .ok (.putfield 37, 3) := by decide +kernel
theorem dX3_init_92 : decode cX3_init 92 = .ok (.iconst 0, 1) := by decide +kernel
theorem dX3_init_93 : decode cX3_init 93 = .ok (.istore_n 1, 1) := by decide +kernel
theorem dX3_init_94 : decode cX3_init 94 = .ok (.iload_n 1, 1) := by decide +kernel
theorem dX3_init_95 : decode cX3_init 95 = .ok (.iconst 2, 1) := by decide +kernel
theorem dX3_init_96 : decode cX3_init 96 = .ok (.if_icmp .ge 22, 3) := by decide +kernel
theorem dX3_init_99 : decode cX3_init 99 = .ok (.aload_n 0, 1) := by decide +kernel
theorem dX3_init_100 : decode cX3_init 100 = .ok (.getfield 37, 3) := by decide +kernel
theorem dX3_init_103 : decode cX3_init 103 = .ok (.iload_n 1, 1) := by decide +kernel
theorem dX3_init_104 : decode cX3_init 104 = .ok (.new 16, 3) := by decide +kernel
theorem dX3_init_107 : decode cX3_init 107 = .ok (.dup, 1) := by decide +kernel
theorem dX3_init_108 : decode cX3_init 108 = .ok (.invokespecial 18, 3) := by decide +kernel
theorem dX3_init_111 : decode cX3_init 111 = .ok (.aastore, 1) := by decide +kernel
theorem dX3_init_112 : decode cX3_init 112 = .ok (.iinc 1 1, 3) := by decide +kernel
theorem dX3_init_115 : decode cX3_init 115 = .ok (.goto (-21), 3) := by decide +kernel
theorem dX3_init_118 : decode cX3_init 118 = .ok (.aload_n 0, 1) := by decide +kernel
theorem dX3_init_119 : decode cX3_init 119 = .ok (.iconst 2, 1) := by decide +kernel
theorem dX3_init_120 : decode cX3_init 120 = .ok (.newarray .boolean, 2) := by decide +kernel
theorem dX3_init_122 : decode cX3_init 122 = .ok (.putfield 40, 3) := by decide +kernel
theorem dX3_init_125 : decode cX3_init 125 = .ok (.return_, 1) := by decide +kernel
theorem dX3_append_0 : decode cX3_append 0 = .ok (.iload_n 1, 1) := by decide +kernel
theorem dX3_append_1 : decode cX3_append 1 = .ok (.ifCond .lt 10, 3) := by decide +kernel
theorem dX3_append_4 : decode cX3_append 4 = .ok (.iload_n 1, 1) := by decide +kernel
theorem dX3_append_5 : decode cX3_append 5 = .ok (.sipush 255, 3) := by decide +kernel
theorem dX3_append_8 : decode cX3_append 8 = .ok (.if_icmp .le 13, 3) := by decide +kernel
theorem dX3_append_11 : decode cX3_append 11 = .ok (.new 44, 3) := by decide +kernel
theorem dX3_append_14 : decode cX3_append 14 = .ok (.dup, 1) := by decide +kernel
theorem dX3_append_15 : decode cX3_append 15 = .ok (.ldc 46, 2) := by decide +kernel
theorem dX3_append_17 : decode cX3_append 17 = .ok (.invokespecial 48, 3) := by decide +kernel
theorem dX3_append_20 : decode cX3_append 20 = .ok (.athrow, 1) := by decide +kernel
theorem dX3_append_21 : decode cX3_append 21 = .ok (.aload_n 0, 1) := by decide +kernel
theorem dX3_append_22 : decode cX3_append 22 = .ok (.getfield 10, 3) := by decide +kernel
theorem dX3_append_25 : decode cX3_append 25 = .ok (.iload_n 1, 1) := by decide +kernel
theorem dX3_append_26 : decode cX3_append 26 = .ok (.invokevirtual 51, 3) := by decide +kernel
theorem dX3_append_29 : decode cX3_append 29 = .ok (.ifCond .ne 13, 3) := by decide +kernel
theorem dX3_append_32 : decode cX3_append 32 = .ok (.new 55, 3) := by decide +kernel
theorem dX3_append_35 : decode cX3_append 35 = .ok (.dup, 1) := by decide +kernel
theorem dX3_append_36 : decode cX3_append 36 = .ok (.ldc 57, 2) := by decide +kernel
theorem dX3_append_38 : decode cX3_append 38 = .ok (.invokespecial 59, 3) := by decide +kernel
theorem dX3_append_41 : decode cX3_append 41 = .ok (.athrow, 1) := by decide +kernel
theorem dX3_append_42 : decode cX3_append 42 = .ok (.aload_n 0, 1) := by decide +kernel
theorem dX3_append_43 : decode cX3_append 43 = .ok (.getfield 10, 3) := by decide +kernel
theorem dX3_append_46 : decode cX3_append 46 = .ok (.getfield 60, 3) := by decide +kernel
theorem dX3_append_49 : decode cX3_append 49 = .ok (.ireturn, 1) := by decide +kernel
theorem dX3_clearText_0 : decode cX3_clearText 0 = .ok (.aload_n 0, 1) := by decide +kernel
theorem dX3_clearText_1 : decode cX3_clearText 1 = .ok (.getfield 10, 3) := by decide +kernel
theorem dX3_clearText_4 : decode cX3_clearText 4 = .ok (.getfield 60, 3) := by decide +kernel
theorem dX3_clearText_7 : decode cX3_clearText 7 = .ok (.istore_n 1, 1) := by decide +kernel
theorem dX3_clearText_8 : decode cX3_clearText 8 = .ok (.aload_n 0, 1) := by decide +kernel
theorem dX3_clearText_9 : decode cX3_clearText 9 = .ok (.getfield 10, 3) := by decide +kernel
theorem dX3_clearText_12 : decode cX3_clearText 12 = .ok (.iconst 0, 1) := by decide +kernel
theorem dX3_clearText_13 : decode cX3_clearText 13 = .ok (.putfield 60, 3) := by decide +kernel
theorem dX3_clearText_16 : decode cX3_clearText 16 = .ok (.iload_n 1, 1) := by decide +kernel
theorem dX3_clearText_17 : decode cX3_clearText 17 = .ok (.ireturn, 1) := by decide +kernel
theorem dX3_errorPosition_0 : decode cX3_errorPosition 0 = .ok (.aload_n 0, 1) := by decide +kernel
theorem dX3_errorPosition_1 : decode cX3_errorPosition 1 = .ok (.getfield 10, 3) := by decide +kernel
theorem dX3_errorPosition_4 : decode cX3_errorPosition 4 = .ok (.invokevirtual 64, 3) := by decide +kernel
theorem dX3_errorPosition_7 : decode cX3_errorPosition 7 = .ok (.aload_n 0, 1) := by decide +kernel
theorem dX3_errorPosition_8 : decode cX3_errorPosition 8 = .ok (.getfield 10, 3) := by decide +kernel
theorem dX3_errorPosition_11 : decode cX3_errorPosition 11 = .ok (.getfield 67, 3) := by decide +kernel
theorem dX3_errorPosition_14 : decode cX3_errorPosition 14 = .ok (.ireturn, 1) := by decide +kernel
theorem dX3_axlesTold_0 : decode cX3_axlesTold 0 = .ok (.aload_n 0, 1) := by decide +kernel
theorem dX3_axlesTold_1 : decode cX3_axlesTold 1 = .ok (.getfield 10, 3) := by decide +kernel
theorem dX3_axlesTold_4 : decode cX3_axlesTold 4 = .ok (.invokevirtual 64, 3) := by decide +kernel
theorem dX3_axlesTold_7 : decode cX3_axlesTold 7 = .ok (.aload_n 0, 1) := by decide +kernel
theorem dX3_axlesTold_8 : decode cX3_axlesTold 8 = .ok (.getfield 10, 3) := by decide +kernel
theorem dX3_axlesTold_11 : decode cX3_axlesTold 11 = .ok (.getfield 67, 3) := by decide +kernel
theorem dX3_axlesTold_14 : decode cX3_axlesTold 14 = .ok (.iconst (-1), 1) := by decide +kernel
theorem dX3_axlesTold_15 : decode cX3_axlesTold 15 = .ok (.if_icmp .ne 13, 3) := by decide +kernel
theorem dX3_axlesTold_18 : decode cX3_axlesTold 18 = .ok (.aload_n 0, 1) := by decide +kernel
theorem dX3_axlesTold_19 : decode cX3_axlesTold 19 = .ok (.getfield 10, 3) := by decide +kernel
theorem dX3_axlesTold_22 : decode cX3_axlesTold 22 = .ok (.getfield 70, 3) := by decide +kernel
theorem dX3_axlesTold_25 : decode cX3_axlesTold 25 = .ok (.goto 4, 3) := by decide +kernel
theorem dX3_axlesTold_28 : decode cX3_axlesTold 28 = .ok (.iconst (-1), 1) := by decide +kernel
theorem dX3_axlesTold_29 : decode cX3_axlesTold 29 = .ok (.ireturn, 1) := by decide +kernel
theorem dX3_about_0 : decode cX3_about 0 = .ok (.iload_n 1, 1) := by decide +kernel
theorem dX3_about_1 : decode cX3_about 1 = .ok (.ifCond .lt 9, 3) := by decide +kernel
theorem dX3_about_4 : decode cX3_about 4 = .ok (.iload_n 1, 1) := by decide +kernel
theorem dX3_about_5 : decode cX3_about 5 = .ok (.bipush 7, 2) := by decide +kernel
theorem dX3_about_7 : decode cX3_about 7 = .ok (.if_icmp .le 13, 3) := by decide +kernel
theorem dX3_about_10 : decode cX3_about 10 = .ok (.new 44, 3) := by decide +kernel
theorem dX3_about_13 : decode cX3_about 13 = .ok (.dup, 1) := by decide +kernel
theorem dX3_about_14 : decode cX3_about 14 = .ok (.ldc 73, 2) := by decide +kernel
theorem dX3_about_16 : decode cX3_about 16 = .ok (.invokespecial 48, 3) := by decide +kernel
theorem dX3_about_19 : decode cX3_about 19 = .ok (.athrow, 1) := by decide +kernel
theorem dX3_about_20 : decode cX3_about 20 = .ok (.aload_n 0, 1) := by decide +kernel
theorem dX3_about_21 : decode cX3_about 21 = .ok (.getfield 29, 3) := by decide +kernel
theorem dX3_about_24 : decode cX3_about 24 = .ok (.aload_n 0, 1) := by decide +kernel
theorem dX3_about_25 : decode cX3_about 25 = .ok (.getfield 19, 3) := by decide +kernel
theorem dX3_about_28 : decode cX3_about 28 = .ok (.invokevirtual 75, 3) := by decide +kernel
theorem dX3_about_31 : decode cX3_about 31 = .ok (.iload_n 1, 1) := by decide +kernel
theorem dX3_about_32 : decode cX3_about 32 = .ok (.tableswitch 108 0 6 #[44, 52, 60, 68, 86, 94, 102], 44) := by decide +kernel
theorem dX3_about_76 : decode cX3_about 76 = .ok (.aload_n 0, 1) := by decide +kernel
theorem dX3_about_77 : decode cX3_about 77 = .ok (.getfield 19, 3) := by decide +kernel
theorem dX3_about_80 : decode cX3_about 80 = .ok (.getfield 79, 3) := by decide +kernel
theorem dX3_about_83 : decode cX3_about 83 = .ok (.ireturn, 1) := by decide +kernel
theorem dX3_about_84 : decode cX3_about 84 = .ok (.aload_n 0, 1) := by decide +kernel
theorem dX3_about_85 : decode cX3_about 85 = .ok (.getfield 29, 3) := by decide +kernel
theorem dX3_about_88 : decode cX3_about 88 = .ok (.getfield 82, 3) := by decide +kernel
theorem dX3_about_91 : decode cX3_about 91 = .ok (.ireturn, 1) := by decide +kernel
theorem dX3_about_92 : decode cX3_about 92 = .ok (.aload_n 0, 1) := by decide +kernel
theorem dX3_about_93 : decode cX3_about 93 = .ok (.getfield 29, 3) := by decide +kernel
theorem dX3_about_96 : decode cX3_about 96 = .ok (.getfield 85, 3) := by decide +kernel
theorem dX3_about_99 : decode cX3_about 99 = .ok (.ireturn, 1) := by decide +kernel
theorem dX3_about_100 : decode cX3_about 100 = .ok (.aload_n 0, 1) := by decide +kernel
theorem dX3_about_101 : decode cX3_about 101 = .ok (.getfield 19, 3) := by decide +kernel
theorem dX3_about_104 : decode cX3_about 104 = .ok (.getfield 79, 3) := by decide +kernel
theorem dX3_about_107 : decode cX3_about 107 = .ok (.iconst 2, 1) := by decide +kernel
theorem dX3_about_108 : decode cX3_about 108 = .ok (.aload_n 0, 1) := by decide +kernel
theorem dX3_about_109 : decode cX3_about 109 = .ok (.getfield 29, 3) := by decide +kernel
theorem dX3_about_112 : decode cX3_about 112 = .ok (.getfield 85, 3) := by decide +kernel
theorem dX3_about_115 : decode cX3_about 115 = .ok (.imul, 1) := by decide +kernel
theorem dX3_about_116 : decode cX3_about 116 = .ok (.isub, 1) := by decide +kernel
theorem dX3_about_117 : decode cX3_about 117 = .ok (.ireturn, 1) := by decide +kernel
theorem dX3_about_118 : decode cX3_about 118 = .ok (.aload_n 0, 1) := by decide +kernel
theorem dX3_about_119 : decode cX3_about 119 = .ok (.getfield 29, 3) := by decide +kernel
theorem dX3_about_122 : decode cX3_about 122 = .ok (.getfield 88, 3) := by decide +kernel
theorem dX3_about_125 : decode cX3_about 125 = .ok (.ireturn, 1) := by decide +kernel
theorem dX3_about_126 : decode cX3_about 126 = .ok (.aload_n 0, 1) := by decide +kernel
theorem dX3_about_127 : decode cX3_about 127 = .ok (.getfield 29, 3) := by decide +kernel
theorem dX3_about_130 : decode cX3_about 130 = .ok (.getfield 91, 3) := by decide +kernel
theorem dX3_about_133 : decode cX3_about 133 = .ok (.ireturn, 1) := by decide +kernel
theorem dX3_about_134 : decode cX3_about 134 = .ok (.aload_n 0, 1) := by decide +kernel
theorem dX3_about_135 : decode cX3_about 135 = .ok (.iconst 0, 1) := by decide +kernel
theorem dX3_about_136 : decode cX3_about 136 = .ok (.invokevirtual 94, 3) := by decide +kernel
theorem dX3_about_139 : decode cX3_about 139 = .ok (.ireturn, 1) := by decide +kernel
theorem dX3_about_140 : decode cX3_about 140 = .ok (.aload_n 0, 1) := by decide +kernel
theorem dX3_about_141 : decode cX3_about 141 = .ok (.iconst 1, 1) := by decide +kernel
theorem dX3_about_142 : decode cX3_about 142 = .ok (.invokevirtual 94, 3) := by decide +kernel
theorem dX3_about_145 : decode cX3_about 145 = .ok (.ireturn, 1) := by decide +kernel
theorem dX3_axle_0 : decode cX3_axle 0 = .ok (.aload_n 0, 1) := by decide +kernel
theorem dX3_axle_1 : decode cX3_axle 1 = .ok (.iload_n 1, 1) := by decide +kernel
theorem dX3_axle_2 : decode cX3_axle 2 = .ok (.invokevirtual 98, 3) := by decide +kernel
theorem dX3_axle_5 : decode cX3_axle 5 = .ok (.iload_n 2, 1) := by decide +kernel
theorem dX3_axle_6 : decode cX3_axle 6 = .ok (.ifCond .lt 8, 3) := by decide +kernel
theorem dX3_axle_9 : decode cX3_axle 9 = .ok (.iload_n 2, 1) := by decide +kernel
theorem dX3_axle_10 : decode cX3_axle 10 = .ok (.iconst 3, 1) := by decide +kernel
theorem dX3_axle_11 : decode cX3_axle 11 = .ok (.if_icmp .le 13, 3) := by decide +kernel
theorem dX3_axle_14 : decode cX3_axle 14 = .ok (.new 44, 3) := by decide +kernel
theorem dX3_axle_17 : decode cX3_axle 17 = .ok (.dup, 1) := by decide +kernel
theorem dX3_axle_18 : decode cX3_axle 18 = .ok (.ldc 102, 2) := by decide +kernel
theorem dX3_axle_20 : decode cX3_axle 20 = .ok (.invokespecial 48, 3) := by decide +kernel
theorem dX3_axle_23 : decode cX3_axle 23 = .ok (.athrow, 1) := by decide +kernel
theorem dX3_axle_24 : decode cX3_axle 24 = .ok (.aload_n 0, 1) := by decide +kernel
theorem dX3_axle_25 : decode cX3_axle 25 = .ok (.getfield 29, 3) := by decide +kernel
theorem dX3_axle_28 : decode cX3_axle 28 = .ok (.aload_n 0, 1) := by decide +kernel
theorem dX3_axle_29 : decode cX3_axle 29 = .ok (.getfield 19, 3) := by decide +kernel
theorem dX3_axle_32 : decode cX3_axle 32 = .ok (.invokevirtual 75, 3) := by decide +kernel
theorem dX3_axle_35 : decode cX3_axle 35 = .ok (.iload_n 2, 1) := by decide +kernel
theorem dX3_axle_36 : decode cX3_axle 36 = .ok (.tableswitch 64 0 2 #[28, 40, 52], 28) := by decide +kernel
theorem dX3_axle_64 : decode cX3_axle 64 = .ok (.aload_n 0, 1) := by decide +kernel
theorem dX3_axle_65 : decode cX3_axle 65 = .ok (.getfield 19, 3) := by decide +kernel
theorem dX3_axle_68 : decode cX3_axle 68 = .ok (.getfield 104, 3) := by decide +kernel
theorem dX3_axle_71 : decode cX3_axle 71 = .ok (.iload_n 1, 1) := by decide +kernel
theorem dX3_axle_72 : decode cX3_axle 72 = .ok (.invokestatic 108, 3) := by decide +kernel
theorem dX3_axle_75 : decode cX3_axle 75 = .ok (.ireturn, 1) := by decide +kernel
theorem dX3_axle_76 : decode cX3_axle 76 = .ok (.aload_n 0, 1) := by decide +kernel
theorem dX3_axle_77 : decode cX3_axle 77 = .ok (.getfield 19, 3) := by decide +kernel
theorem dX3_axle_80 : decode cX3_axle 80 = .ok (.getfield 112, 3) := by decide +kernel
theorem dX3_axle_83 : decode cX3_axle 83 = .ok (.iload_n 1, 1) := by decide +kernel
theorem dX3_axle_84 : decode cX3_axle 84 = .ok (.invokestatic 108, 3) := by decide +kernel
theorem dX3_axle_87 : decode cX3_axle 87 = .ok (.ireturn, 1) := by decide +kernel
theorem dX3_axle_88 : decode cX3_axle 88 = .ok (.aload_n 0, 1) := by decide +kernel
theorem dX3_axle_89 : decode cX3_axle 89 = .ok (.getfield 29, 3) := by decide +kernel
theorem dX3_axle_92 : decode cX3_axle 92 = .ok (.getfield 115, 3) := by decide +kernel
theorem dX3_axle_95 : decode cX3_axle 95 = .ok (.iload_n 1, 1) := by decide +kernel
theorem dX3_axle_96 : decode cX3_axle 96 = .ok (.invokestatic 108, 3) := by decide +kernel
theorem dX3_axle_99 : decode cX3_axle 99 = .ok (.ireturn, 1) := by decide +kernel
theorem dX3_axle_100 : decode cX3_axle 100 = .ok (.aload_n 0, 1) := by decide +kernel
theorem dX3_axle_101 : decode cX3_axle 101 = .ok (.getfield 29, 3) := by decide +kernel
theorem dX3_axle_104 : decode cX3_axle 104 = .ok (.getfield 118, 3) := by decide +kernel
theorem dX3_axle_107 : decode cX3_axle 107 = .ok (.iload_n 1, 1) := by decide +kernel
theorem dX3_axle_108 : decode cX3_axle 108 = .ok (.invokestatic 108, 3) := by decide +kernel
theorem dX3_axle_111 : decode cX3_axle 111 = .ok (.ireturn, 1) := by decide +kernel
theorem dX3_car_0 : decode cX3_car 0 = .ok (.aload_n 0, 1) := by decide +kernel
theorem dX3_car_1 : decode cX3_car 1 = .ok (.getfield 29, 3) := by decide +kernel
theorem dX3_car_4 : decode cX3_car 4 = .ok (.aload_n 0, 1) := by decide +kernel
theorem dX3_car_5 : decode cX3_car 5 = .ok (.getfield 19, 3) := by decide +kernel
theorem dX3_car_8 : decode cX3_car 8 = .ok (.invokevirtual 75, 3) := by decide +kernel
theorem dX3_car_11 : decode cX3_car 11 = .ok (.iload_n 1, 1) := by decide +kernel
theorem dX3_car_12 : decode cX3_car 12 = .ok (.ifCond .lt 14, 3) := by decide +kernel
theorem dX3_car_15 : decode cX3_car 15 = .ok (.iload_n 1, 1) := by decide +kernel
theorem dX3_car_16 : decode cX3_car 16 = .ok (.aload_n 0, 1) := by decide +kernel
theorem dX3_car_17 : decode cX3_car 17 = .ok (.getfield 29, 3) := by decide +kernel
theorem dX3_car_20 : decode cX3_car 20 = .ok (.getfield 85, 3) := by decide +kernel
theorem dX3_car_23 : decode cX3_car 23 = .ok (.if_icmp .lt 13, 3) := by decide +kernel
theorem dX3_car_26 : decode cX3_car 26 = .ok (.new 121, 3) := by decide +kernel
theorem dX3_car_29 : decode cX3_car 29 = .ok (.dup, 1) := by decide +kernel
theorem dX3_car_30 : decode cX3_car 30 = .ok (.ldc 123, 2) := by decide +kernel
theorem dX3_car_32 : decode cX3_car 32 = .ok (.invokespecial 125, 3) := by decide +kernel
theorem dX3_car_35 : decode cX3_car 35 = .ok (.athrow, 1) := by decide +kernel
theorem dX3_car_36 : decode cX3_car 36 = .ok (.iload_n 2, 1) := by decide +kernel
theorem dX3_car_37 : decode cX3_car 37 = .ok (.ifCond .lt 8, 3) := by decide +kernel
theorem dX3_car_40 : decode cX3_car 40 = .ok (.iload_n 2, 1) := by decide +kernel
theorem dX3_car_41 : decode cX3_car 41 = .ok (.iconst 5, 1) := by decide +kernel
theorem dX3_car_42 : decode cX3_car 42 = .ok (.if_icmp .le 13, 3) := by decide +kernel
theorem dX3_car_45 : decode cX3_car 45 = .ok (.new 44, 3) := by decide +kernel
theorem dX3_car_48 : decode cX3_car 48 = .ok (.dup, 1) := by decide +kernel
theorem dX3_car_49 : decode cX3_car 49 = .ok (.ldc 126, 2) := by decide +kernel
theorem dX3_car_51 : decode cX3_car 51 = .ok (.invokespecial 48, 3) := by decide +kernel
theorem dX3_car_54 : decode cX3_car 54 = .ok (.athrow, 1) := by decide +kernel
theorem dX3_car_55 : decode cX3_car 55 = .ok (.aload_n 0, 1) := by decide +kernel
theorem dX3_car_56 : decode cX3_car 56 = .ok (.getfield 29, 3) := by decide +kernel
theorem dX3_car_59 : decode cX3_car 59 = .ok (.getfield 128, 3) := by decide +kernel
theorem dX3_car_62 : decode cX3_car 62 = .ok (.iload_n 1, 1) := by decide +kernel
theorem dX3_car_63 : decode cX3_car 63 = .ok (.invokestatic 108, 3) := by decide +kernel
theorem dX3_car_66 : decode cX3_car 66 = .ok (.istore_n 3, 1) := by decide +kernel
theorem dX3_car_67 : decode cX3_car 67 = .ok (.iload_n 2, 1) := by decide +kernel
theorem dX3_car_68 : decode cX3_car 68 = .ok (.tableswitch 82 0 4 #[36, 38, 47, 61, 70], 36) := by decide +kernel
theorem dX3_car_104 : decode cX3_car 104 = .ok (.iload_n 3, 1) := by decide +kernel
theorem dX3_car_105 : decode cX3_car 105 = .ok (.ireturn, 1) := by decide +kernel
theorem dX3_car_106 : decode cX3_car 106 = .ok (.aload_n 0, 1) := by decide +kernel
theorem dX3_car_107 : decode cX3_car 107 = .ok (.getfield 19, 3) := by decide +kernel
theorem dX3_car_110 : decode cX3_car 110 = .ok (.iload_n 3, 1) := by decide +kernel
theorem dX3_car_111 : decode cX3_car 111 = .ok (.invokevirtual 131, 3) := by decide +kernel
theorem dX3_car_114 : decode cX3_car 114 = .ok (.ireturn, 1) := by decide +kernel
theorem dX3_car_115 : decode cX3_car 115 = .ok (.aload_n 0, 1) := by decide +kernel
theorem dX3_car_116 : decode cX3_car 116 = .ok (.getfield 19, 3) := by decide +kernel
theorem dX3_car_119 : decode cX3_car 119 = .ok (.getfield 104, 3) := by decide +kernel
theorem dX3_car_122 : decode cX3_car 122 = .ok (.iload_n 3, 1) := by decide +kernel
theorem dX3_car_123 : decode cX3_car 123 = .ok (.iconst 1, 1) := by decide +kernel
theorem dX3_car_124 : decode cX3_car 124 = .ok (.iadd, 1) := by decide +kernel
theorem dX3_car_125 : decode cX3_car 125 = .ok (.invokestatic 108, 3) := by decide +kernel
theorem dX3_car_128 : decode cX3_car 128 = .ok (.ireturn, 1) := by decide +kernel
theorem dX3_car_129 : decode cX3_car 129 = .ok (.aload_n 0, 1) := by decide +kernel
theorem dX3_car_130 : decode cX3_car 130 = .ok (.getfield 19, 3) := by decide +kernel
theorem dX3_car_133 : decode cX3_car 133 = .ok (.iload_n 3, 1) := by decide +kernel
theorem dX3_car_134 : decode cX3_car 134 = .ok (.invokevirtual 135, 3) := by decide +kernel
theorem dX3_car_137 : decode cX3_car 137 = .ok (.ireturn, 1) := by decide +kernel
theorem dX3_car_138 : decode cX3_car 138 = .ok (.aload_n 0, 1) := by decide +kernel
theorem dX3_car_139 : decode cX3_car 139 = .ok (.getfield 29, 3) := by decide +kernel
theorem dX3_car_142 : decode cX3_car 142 = .ok (.getfield 115, 3) := by decide +kernel
theorem dX3_car_145 : decode cX3_car 145 = .ok (.iload_n 3, 1) := by decide +kernel
theorem dX3_car_146 : decode cX3_car 146 = .ok (.invokestatic 108, 3) := by decide +kernel
theorem dX3_car_149 : decode cX3_car 149 = .ok (.ireturn, 1) := by decide +kernel
theorem dX3_car_150 : decode cX3_car 150 = .ok (.aload_n 0, 1) := by decide +kernel
theorem dX3_car_151 : decode cX3_car 151 = .ok (.getfield 29, 3) := by decide +kernel
theorem dX3_car_154 : decode cX3_car 154 = .ok (.aload_n 0, 1) := by decide +kernel
theorem dX3_car_155 : decode cX3_car 155 = .ok (.getfield 19, 3) := by decide +kernel
theorem dX3_car_158 : decode cX3_car 158 = .ok (.iload_n 1, 1) := by decide +kernel
theorem dX3_car_159 : decode cX3_car 159 = .ok (.invokevirtual 138, 3) := by decide +kernel
theorem dX3_car_162 : decode cX3_car 162 = .ok (.ireturn, 1) := by decide +kernel
theorem dX3_train_0 : decode cX3_train 0 = .ok (.aload_n 0, 1) := by decide +kernel
theorem dX3_train_1 : decode cX3_train 1 = .ok (.getfield 29, 3) := by decide +kernel
theorem dX3_train_4 : decode cX3_train 4 = .ok (.aload_n 0, 1) := by decide +kernel
theorem dX3_train_5 : decode cX3_train 5 = .ok (.getfield 19, 3) := by decide +kernel
theorem dX3_train_8 : decode cX3_train 8 = .ok (.invokevirtual 75, 3) := by decide +kernel
theorem dX3_train_11 : decode cX3_train 11 = .ok (.aload_n 0, 1) := by decide +kernel
theorem dX3_train_12 : decode cX3_train 12 = .ok (.iload_n 1, 1) := by decide +kernel
theorem dX3_train_13 : decode cX3_train 13 = .ok (.invokevirtual 142, 3) := by decide +kernel
theorem dX3_train_16 : decode cX3_train 16 = .ok (.iload_n 2, 1) := by decide +kernel
theorem dX3_train_17 : decode cX3_train 17 = .ok (.ifCond .lt 9, 3) := by decide +kernel
theorem dX3_train_20 : decode cX3_train 20 = .ok (.iload_n 2, 1) := by decide +kernel
theorem dX3_train_21 : decode cX3_train 21 = .ok (.bipush 7, 2) := by decide +kernel
theorem dX3_train_23 : decode cX3_train 23 = .ok (.if_icmp .le 13, 3) := by decide +kernel
theorem dX3_train_26 : decode cX3_train 26 = .ok (.new 44, 3) := by decide +kernel
theorem dX3_train_29 : decode cX3_train 29 = .ok (.dup, 1) := by decide +kernel
theorem dX3_train_30 : decode cX3_train 30 = .ok (.ldc 145, 2) := by decide +kernel
theorem dX3_train_32 : decode cX3_train 32 = .ok (.invokespecial 48, 3) := by decide +kernel
theorem dX3_train_35 : decode cX3_train 35 = .ok (.athrow, 1) := by decide +kernel
theorem dX3_train_36 : decode cX3_train 36 = .ok (.iload_n 2, 1) := by decide +kernel
theorem dX3_train_37 : decode cX3_train 37 = .ok (.tableswitch 124 0 6 #[43, 55, 64, 73, 86, 98, 111], 43) := by decide +kernel
theorem dX3_train_80 : decode cX3_train 80 = .ok (.aload_n 0, 1) := by decide +kernel
theorem dX3_train_81 : decode cX3_train 81 = .ok (.getfield 29, 3) := by decide +kernel
theorem dX3_train_84 : decode cX3_train 84 = .ok (.getfield 147, 3) := by decide +kernel
theorem dX3_train_87 : decode cX3_train 87 = .ok (.iload_n 1, 1) := by decide +kernel
theorem dX3_train_88 : decode cX3_train 88 = .ok (.invokestatic 108, 3) := by decide +kernel
theorem dX3_train_91 : decode cX3_train 91 = .ok (.ireturn, 1) := by decide +kernel
theorem dX3_train_92 : decode cX3_train 92 = .ok (.aload_n 0, 1) := by decide +kernel
theorem dX3_train_93 : decode cX3_train 93 = .ok (.getfield 29, 3) := by decide +kernel
theorem dX3_train_96 : decode cX3_train 96 = .ok (.iload_n 1, 1) := by decide +kernel
theorem dX3_train_97 : decode cX3_train 97 = .ok (.invokevirtual 150, 3) := by decide +kernel
theorem dX3_train_100 : decode cX3_train 100 = .ok (.ireturn, 1) := by decide +kernel
theorem dX3_train_101 : decode cX3_train 101 = .ok (.aload_n 0, 1) := by decide +kernel
theorem dX3_train_102 : decode cX3_train 102 = .ok (.getfield 29, 3) := by decide +kernel
theorem dX3_train_105 : decode cX3_train 105 = .ok (.iload_n 1, 1) := by decide +kernel
theorem dX3_train_106 : decode cX3_train 106 = .ok (.invokevirtual 153, 3) := by decide +kernel
theorem dX3_train_109 : decode cX3_train 109 = .ok (.ireturn, 1) := by decide +kernel
theorem dX3_train_110 : decode cX3_train 110 = .ok (.aload_n 0, 1) := by decide +kernel
theorem dX3_train_111 : decode cX3_train 111 = .ok (.getfield 29, 3) := by decide +kernel
theorem dX3_train_114 : decode cX3_train 114 = .ok (.aload_n 0, 1) := by decide +kernel
theorem dX3_train_115 : decode cX3_train 115 = .ok (.getfield 19, 3) := by decide +kernel
theorem dX3_train_118 : decode cX3_train 118 = .ok (.iload_n 1, 1) := by decide +kernel
theorem dX3_train_119 : decode cX3_train 119 = .ok (.invokevirtual 156, 3) := by decide +kernel
theorem dX3_train_122 : decode cX3_train 122 = .ok (.ireturn, 1) := by decide +kernel
theorem dX3_train_123 : decode cX3_train 123 = .ok (.aload_n 0, 1) := by decide +kernel
theorem dX3_train_124 : decode cX3_train 124 = .ok (.getfield 29, 3) := by decide +kernel
theorem dX3_train_127 : decode cX3_train 127 = .ok (.getfield 159, 3) := by decide +kernel
theorem dX3_train_130 : decode cX3_train 130 = .ok (.iload_n 1, 1) := by decide +kernel
theorem dX3_train_131 : decode cX3_train 131 = .ok (.invokestatic 108, 3) := by decide +kernel
theorem dX3_train_134 : decode cX3_train 134 = .ok (.ireturn, 1) := by decide +kernel
theorem dX3_train_135 : decode cX3_train 135 = .ok (.aload_n 0, 1) := by decide +kernel
theorem dX3_train_136 : decode cX3_train 136 = .ok (.getfield 29, 3) := by decide +kernel
theorem dX3_train_139 : decode cX3_train 139 = .ok (.aload_n 0, 1) := by decide +kernel
theorem dX3_train_140 : decode cX3_train 140 = .ok (.getfield 19, 3) := by decide +kernel
theorem dX3_train_143 : decode cX3_train 143 = .ok (.iload_n 1, 1) := by decide +kernel
theorem dX3_train_144 : decode cX3_train 144 = .ok (.invokevirtual 162, 3) := by decide +kernel
theorem dX3_train_147 : decode cX3_train 147 = .ok (.ireturn, 1) := by decide +kernel
theorem dX3_train_148 : decode cX3_train 148 = .ok (.aload_n 0, 1) := by decide +kernel
theorem dX3_train_149 : decode cX3_train 149 = .ok (.getfield 29, 3) := by decide +kernel
theorem dX3_train_152 : decode cX3_train 152 = .ok (.aload_n 0, 1) := by decide +kernel
theorem dX3_train_153 : decode cX3_train 153 = .ok (.getfield 19, 3) := by decide +kernel
theorem dX3_train_156 : decode cX3_train 156 = .ok (.iload_n 1, 1) := by decide +kernel
theorem dX3_train_157 : decode cX3_train 157 = .ok (.invokevirtual 165, 3) := by decide +kernel
theorem dX3_train_160 : decode cX3_train 160 = .ok (.ireturn, 1) := by decide +kernel
theorem dX3_train_161 : decode cX3_train 161 = .ok (.aload_n 0, 1) := by decide +kernel
theorem dX3_train_162 : decode cX3_train 162 = .ok (.iload_n 1, 1) := by decide +kernel
theorem dX3_train_163 : decode cX3_train 163 = .ok (.invokevirtual 168, 3) := by decide +kernel
theorem dX3_train_166 : decode cX3_train 166 = .ok (.ireturn, 1) := by decide +kernel
theorem dX3_setting_0 : decode cX3_setting 0 = .ok (.iload_n 1, 1) := by decide +kernel
theorem dX3_setting_1 : decode cX3_setting 1 = .ok (.invokestatic 171, 3) := by decide +kernel
theorem dX3_setting_4 : decode cX3_setting 4 = .ok (.ifCond .ne 13, 3) := by decide +kernel
theorem dX3_setting_7 : decode cX3_setting 7 = .ok (.new 44, 3) := by decide +kernel
theorem dX3_setting_10 : decode cX3_setting 10 = .ok (.dup, 1) := by decide +kernel
theorem dX3_setting_11 : decode cX3_setting 11 = .ok (.ldc 174, 2) := by decide +kernel
theorem dX3_setting_13 : decode cX3_setting 13 = .ok (.invokespecial 48, 3) := by decide +kernel
theorem dX3_setting_16 : decode cX3_setting 16 = .ok (.athrow, 1) := by decide +kernel
theorem dX3_setting_17 : decode cX3_setting 17 = .ok (.aload_n 0, 1) := by decide +kernel
theorem dX3_setting_18 : decode cX3_setting 18 = .ok (.getfield 19, 3) := by decide +kernel
theorem dX3_setting_21 : decode cX3_setting 21 = .ok (.getfield 176, 3) := by decide +kernel
theorem dX3_setting_24 : decode cX3_setting 24 = .ok (.iload_n 1, 1) := by decide +kernel
theorem dX3_setting_25 : decode cX3_setting 25 = .ok (.invokestatic 108, 3) := by decide +kernel
theorem dX3_setting_28 : decode cX3_setting 28 = .ok (.ireturn, 1) := by decide +kernel
theorem dX3_roll_0 : decode cX3_roll 0 = .ok (.iload_n 1, 1) := by decide +kernel
theorem dX3_roll_1 : decode cX3_roll 1 = .ok (.invokestatic 179, 3) := by decide +kernel
theorem dX3_roll_4 : decode cX3_roll 4 = .ok (.ifCond .eq 10, 3) := by decide +kernel
theorem dX3_roll_7 : decode cX3_roll 7 = .ok (.iload_n 2, 1) := by decide +kernel
theorem dX3_roll_8 : decode cX3_roll 8 = .ok (.invokestatic 182, 3) := by decide +kernel
theorem dX3_roll_11 : decode cX3_roll 11 = .ok (.ifCond .ne 13, 3) := by decide +kernel
theorem dX3_roll_14 : decode cX3_roll 14 = .ok (.new 44, 3) := by decide +kernel
theorem dX3_roll_17 : decode cX3_roll 17 = .ok (.dup, 1) := by decide +kernel
theorem dX3_roll_18 : decode cX3_roll 18 = .ok (.ldc 185, 2) := by decide +kernel
theorem dX3_roll_20 : decode cX3_roll 20 = .ok (.invokespecial 48, 3) := by decide +kernel
theorem dX3_roll_23 : decode cX3_roll 23 = .ok (.athrow, 1) := by decide +kernel
theorem dX3_roll_24 : decode cX3_roll 24 = .ok (.aload_n 0, 1) := by decide +kernel
theorem dX3_roll_25 : decode cX3_roll 25 = .ok (.getfield 19, 3) := by decide +kernel
theorem dX3_roll_28 : decode cX3_roll 28 = .ok (.getfield 79, 3) := by decide +kernel
theorem dX3_roll_31 : decode cX3_roll 31 = .ok (.bipush 30, 2) := by decide +kernel
theorem dX3_roll_33 : decode cX3_roll 33 = .ok (.if_icmp .lt 13, 3) := by decide +kernel
theorem dX3_roll_36 : decode cX3_roll 36 = .ok (.new 55, 3) := by decide +kernel
theorem dX3_roll_39 : decode cX3_roll 39 = .ok (.dup, 1) := by decide +kernel
theorem dX3_roll_40 : decode cX3_roll 40 = .ok (.ldc 187, 2) := by decide +kernel
theorem dX3_roll_42 : decode cX3_roll 42 = .ok (.invokespecial 59, 3) := by decide +kernel
theorem dX3_roll_45 : decode cX3_roll 45 = .ok (.athrow, 1) := by decide +kernel
theorem dX3_roll_46 : decode cX3_roll 46 = .ok (.aload_n 0, 1) := by decide +kernel
theorem dX3_roll_47 : decode cX3_roll 47 = .ok (.invokevirtual 189, 3) := by decide +kernel
theorem dX3_roll_50 : decode cX3_roll 50 = .ok (.aload_n 0, 1) := by decide +kernel
theorem dX3_roll_51 : decode cX3_roll 51 = .ok (.getfield 19, 3) := by decide +kernel
theorem dX3_roll_54 : decode cX3_roll 54 = .ok (.iload_n 1, 1) := by decide +kernel
theorem dX3_roll_55 : decode cX3_roll 55 = .ok (.iload_n 2, 1) := by decide +kernel
theorem dX3_roll_56 : decode cX3_roll 56 = .ok (.invokevirtual 192, 3) := by decide +kernel
theorem dX3_roll_59 : decode cX3_roll 59 = .ok (.pop, 1) := by decide +kernel
theorem dX3_roll_60 : decode cX3_roll 60 = .ok (.aload_n 0, 1) := by decide +kernel
theorem dX3_roll_61 : decode cX3_roll 61 = .ok (.getfield 19, 3) := by decide +kernel
theorem dX3_roll_64 : decode cX3_roll 64 = .ok (.getfield 79, 3) := by decide +kernel
theorem dX3_roll_67 : decode cX3_roll 67 = .ok (.iconst 1, 1) := by decide +kernel
theorem dX3_roll_68 : decode cX3_roll 68 = .ok (.isub, 1) := by decide +kernel
theorem dX3_roll_69 : decode cX3_roll 69 = .ok (.ireturn, 1) := by decide +kernel
theorem dX3_record_0 : decode cX3_record 0 = .ok (.aload_n 0, 1) := by decide +kernel
theorem dX3_record_1 : decode cX3_record 1 = .ok (.getfield 10, 3) := by decide +kernel
theorem dX3_record_4 : decode cX3_record 4 = .ok (.invokevirtual 64, 3) := by decide +kernel
theorem dX3_record_7 : decode cX3_record 7 = .ok (.aload_n 0, 1) := by decide +kernel
theorem dX3_record_8 : decode cX3_record 8 = .ok (.getfield 10, 3) := by decide +kernel
theorem dX3_record_11 : decode cX3_record 11 = .ok (.getfield 67, 3) := by decide +kernel
theorem dX3_record_14 : decode cX3_record 14 = .ok (.iconst (-1), 1) := by decide +kernel
theorem dX3_record_15 : decode cX3_record 15 = .ok (.if_icmp .ne 23, 3) := by decide +kernel
theorem dX3_record_18 : decode cX3_record 18 = .ok (.aload_n 0, 1) := by decide +kernel
theorem dX3_record_19 : decode cX3_record 19 = .ok (.getfield 19, 3) := by decide +kernel
theorem dX3_record_22 : decode cX3_record 22 = .ok (.getfield 79, 3) := by decide +kernel
theorem dX3_record_25 : decode cX3_record 25 = .ok (.aload_n 0, 1) := by decide +kernel
theorem dX3_record_26 : decode cX3_record 26 = .ok (.getfield 10, 3) := by decide +kernel
theorem dX3_record_29 : decode cX3_record 29 = .ok (.getfield 70, 3) := by decide +kernel
theorem dX3_record_32 : decode cX3_record 32 = .ok (.iadd, 1) := by decide +kernel
theorem dX3_record_33 : decode cX3_record 33 = .ok (.bipush 30, 2) := by decide +kernel
theorem dX3_record_35 : decode cX3_record 35 = .ok (.if_icmp .le 13, 3) := by decide +kernel
theorem dX3_record_38 : decode cX3_record 38 = .ok (.new 55, 3) := by decide +kernel
theorem dX3_record_41 : decode cX3_record 41 = .ok (.dup, 1) := by decide +kernel
theorem dX3_record_42 : decode cX3_record 42 = .ok (.ldc 196, 2) := by decide +kernel
theorem dX3_record_44 : decode cX3_record 44 = .ok (.invokespecial 59, 3) := by decide +kernel
theorem dX3_record_47 : decode cX3_record 47 = .ok (.athrow, 1) := by decide +kernel
theorem dX3_record_48 : decode cX3_record 48 = .ok (.aload_n 0, 1) := by decide +kernel
theorem dX3_record_49 : decode cX3_record 49 = .ok (.invokevirtual 189, 3) := by decide +kernel
theorem dX3_record_52 : decode cX3_record 52 = .ok (.iconst 0, 1) := by decide +kernel
theorem dX3_record_53 : decode cX3_record 53 = .ok (.istore_n 1, 1) := by decide +kernel
theorem dX3_record_54 : decode cX3_record 54 = .ok (.iload_n 1, 1) := by decide +kernel
theorem dX3_record_55 : decode cX3_record 55 = .ok (.aload_n 0, 1) := by decide +kernel
theorem dX3_record_56 : decode cX3_record 56 = .ok (.getfield 10, 3) := by decide +kernel
theorem dX3_record_59 : decode cX3_record 59 = .ok (.getfield 70, 3) := by decide +kernel
theorem dX3_record_62 : decode cX3_record 62 = .ok (.if_icmp .ge 41, 3) := by decide +kernel
theorem dX3_record_65 : decode cX3_record 65 = .ok (.iload_n 1, 1) := by decide +kernel
theorem dX3_record_66 : decode cX3_record 66 = .ok (.bipush 30, 2) := by decide +kernel
theorem dX3_record_68 : decode cX3_record 68 = .ok (.if_icmp .ge 35, 3) := by decide +kernel
theorem dX3_record_71 : decode cX3_record 71 = .ok (.aload_n 0, 1) := by decide +kernel
theorem dX3_record_72 : decode cX3_record 72 = .ok (.getfield 19, 3) := by decide +kernel
theorem dX3_record_75 : decode cX3_record 75 = .ok (.aload_n 0, 1) := by decide +kernel
theorem dX3_record_76 : decode cX3_record 76 = .ok (.getfield 10, 3) := by decide +kernel
theorem dX3_record_79 : decode cX3_record 79 = .ok (.getfield 198, 3) := by decide +kernel
theorem dX3_record_82 : decode cX3_record 82 = .ok (.iload_n 1, 1) := by decide +kernel
theorem dX3_record_83 : decode cX3_record 83 = .ok (.iaload, 1) := by decide +kernel
theorem dX3_record_84 : decode cX3_record 84 = .ok (.aload_n 0, 1) := by decide +kernel
theorem dX3_record_85 : decode cX3_record 85 = .ok (.getfield 10, 3) := by decide +kernel
theorem dX3_record_88 : decode cX3_record 88 = .ok (.getfield 199, 3) := by decide +kernel
theorem dX3_record_91 : decode cX3_record 91 = .ok (.iload_n 1, 1) := by decide +kernel
theorem dX3_record_92 : decode cX3_record 92 = .ok (.iaload, 1) := by decide +kernel
theorem dX3_record_93 : decode cX3_record 93 = .ok (.invokevirtual 192, 3) := by decide +kernel
theorem dX3_record_96 : decode cX3_record 96 = .ok (.pop, 1) := by decide +kernel
theorem dX3_record_97 : decode cX3_record 97 = .ok (.iinc 1 1, 3) := by decide +kernel
theorem dX3_record_100 : decode cX3_record 100 = .ok (.goto (-46), 3) := by decide +kernel
theorem dX3_record_103 : decode cX3_record 103 = .ok (.aload_n 0, 1) := by decide +kernel
theorem dX3_record_104 : decode cX3_record 104 = .ok (.getfield 19, 3) := by decide +kernel
theorem dX3_record_107 : decode cX3_record 107 = .ok (.getfield 79, 3) := by decide +kernel
theorem dX3_record_110 : decode cX3_record 110 = .ok (.ireturn, 1) := by decide +kernel
theorem dX3_strike_0 : decode cX3_strike 0 = .ok (.aload_n 0, 1) := by decide +kernel
theorem dX3_strike_1 : decode cX3_strike 1 = .ok (.iload_n 1, 1) := by decide +kernel
theorem dX3_strike_2 : decode cX3_strike 2 = .ok (.invokevirtual 98, 3) := by decide +kernel
theorem dX3_strike_5 : decode cX3_strike 5 = .ok (.aload_n 0, 1) := by decide +kernel
theorem dX3_strike_6 : decode cX3_strike 6 = .ok (.invokevirtual 189, 3) := by decide +kernel
theorem dX3_strike_9 : decode cX3_strike 9 = .ok (.aload_n 0, 1) := by decide +kernel
theorem dX3_strike_10 : decode cX3_strike 10 = .ok (.getfield 19, 3) := by decide +kernel
theorem dX3_strike_13 : decode cX3_strike 13 = .ok (.iload_n 1, 1) := by decide +kernel
theorem dX3_strike_14 : decode cX3_strike 14 = .ok (.invokevirtual 200, 3) := by decide +kernel
theorem dX3_strike_17 : decode cX3_strike 17 = .ok (.pop, 1) := by decide +kernel
theorem dX3_strike_18 : decode cX3_strike 18 = .ok (.aload_n 0, 1) := by decide +kernel
theorem dX3_strike_19 : decode cX3_strike 19 = .ok (.getfield 19, 3) := by decide +kernel
theorem dX3_strike_22 : decode cX3_strike 22 = .ok (.getfield 79, 3) := by decide +kernel
theorem dX3_strike_25 : decode cX3_strike 25 = .ok (.ireturn, 1) := by decide +kernel
theorem dX3_weigh_0 : decode cX3_weigh 0 = .ok (.aload_n 0, 1) := by decide +kernel
theorem dX3_weigh_1 : decode cX3_weigh 1 = .ok (.iload_n 1, 1) := by decide +kernel
theorem dX3_weigh_2 : decode cX3_weigh 2 = .ok (.invokevirtual 98, 3) := by decide +kernel
theorem dX3_weigh_5 : decode cX3_weigh 5 = .ok (.iload_n 2, 1) := by decide +kernel
theorem dX3_weigh_6 : decode cX3_weigh 6 = .ok (.invokestatic 182, 3) := by decide +kernel
theorem dX3_weigh_9 : decode cX3_weigh 9 = .ok (.ifCond .ne 13, 3) := by decide +kernel
theorem dX3_weigh_12 : decode cX3_weigh 12 = .ok (.new 44, 3) := by decide +kernel
theorem dX3_weigh_15 : decode cX3_weigh 15 = .ok (.dup, 1) := by decide +kernel
theorem dX3_weigh_16 : decode cX3_weigh 16 = .ok (.ldc 203, 2) := by decide +kernel
theorem dX3_weigh_18 : decode cX3_weigh 18 = .ok (.invokespecial 48, 3) := by decide +kernel
theorem dX3_weigh_21 : decode cX3_weigh 21 = .ok (.athrow, 1) := by decide +kernel
theorem dX3_weigh_22 : decode cX3_weigh 22 = .ok (.aload_n 0, 1) := by decide +kernel
theorem dX3_weigh_23 : decode cX3_weigh 23 = .ok (.getfield 19, 3) := by decide +kernel
theorem dX3_weigh_26 : decode cX3_weigh 26 = .ok (.getfield 112, 3) := by decide +kernel
theorem dX3_weigh_29 : decode cX3_weigh 29 = .ok (.iload_n 1, 1) := by decide +kernel
theorem dX3_weigh_30 : decode cX3_weigh 30 = .ok (.invokestatic 108, 3) := by decide +kernel
theorem dX3_weigh_33 : decode cX3_weigh 33 = .ok (.istore_n 3, 1) := by decide +kernel
theorem dX3_weigh_34 : decode cX3_weigh 34 = .ok (.aload_n 0, 1) := by decide +kernel
theorem dX3_weigh_35 : decode cX3_weigh 35 = .ok (.invokevirtual 189, 3) := by decide +kernel
theorem dX3_weigh_38 : decode cX3_weigh 38 = .ok (.aload_n 0, 1) := by decide +kernel
theorem dX3_weigh_39 : decode cX3_weigh 39 = .ok (.getfield 19, 3) := by decide +kernel
theorem dX3_weigh_42 : decode cX3_weigh 42 = .ok (.iload_n 1, 1) := by decide +kernel
theorem dX3_weigh_43 : decode cX3_weigh 43 = .ok (.iload_n 2, 1) := by decide +kernel
theorem dX3_weigh_44 : decode cX3_weigh 44 = .ok (.invokevirtual 205, 3) := by decide +kernel
theorem dX3_weigh_47 : decode cX3_weigh 47 = .ok (.pop, 1) := by decide +kernel
theorem dX3_weigh_48 : decode cX3_weigh 48 = .ok (.iload_n 3, 1) := by decide +kernel
theorem dX3_weigh_49 : decode cX3_weigh 49 = .ok (.ireturn, 1) := by decide +kernel
theorem dX3_bill_0 : decode cX3_bill 0 = .ok (.iload_n 1, 1) := by decide +kernel
theorem dX3_bill_1 : decode cX3_bill 1 = .ok (.ifCond .lt 20, 3) := by decide +kernel
theorem dX3_bill_4 : decode cX3_bill 4 = .ok (.iload_n 1, 1) := by decide +kernel
theorem dX3_bill_5 : decode cX3_bill 5 = .ok (.bipush 30, 2) := by decide +kernel
theorem dX3_bill_7 : decode cX3_bill 7 = .ok (.if_icmp .ge 14, 3) := by decide +kernel
theorem dX3_bill_10 : decode cX3_bill 10 = .ok (.iload_n 2, 1) := by decide +kernel
theorem dX3_bill_11 : decode cX3_bill 11 = .ok (.ifCond .lt 10, 3) := by decide +kernel
theorem dX3_bill_14 : decode cX3_bill 14 = .ok (.iload_n 2, 1) := by decide +kernel
theorem dX3_bill_15 : decode cX3_bill 15 = .ok (.sipush 9999, 3) := by decide +kernel
theorem dX3_bill_18 : decode cX3_bill 18 = .ok (.if_icmp .le 13, 3) := by decide +kernel
theorem dX3_bill_21 : decode cX3_bill 21 = .ok (.new 44, 3) := by decide +kernel
theorem dX3_bill_24 : decode cX3_bill 24 = .ok (.dup, 1) := by decide +kernel
theorem dX3_bill_25 : decode cX3_bill 25 = .ok (.ldc 208, 2) := by decide +kernel
theorem dX3_bill_27 : decode cX3_bill 27 = .ok (.invokespecial 48, 3) := by decide +kernel
theorem dX3_bill_30 : decode cX3_bill 30 = .ok (.athrow, 1) := by decide +kernel
theorem dX3_bill_31 : decode cX3_bill 31 = .ok (.aload_n 0, 1) := by decide +kernel
theorem dX3_bill_32 : decode cX3_bill 32 = .ok (.iload_n 1, 1) := by decide +kernel
theorem dX3_bill_33 : decode cX3_bill 33 = .ok (.invokevirtual 168, 3) := by decide +kernel
theorem dX3_bill_36 : decode cX3_bill 36 = .ok (.istore_n 3, 1) := by decide +kernel
theorem dX3_bill_37 : decode cX3_bill 37 = .ok (.aload_n 0, 1) := by decide +kernel
theorem dX3_bill_38 : decode cX3_bill 38 = .ok (.invokevirtual 189, 3) := by decide +kernel
theorem dX3_bill_41 : decode cX3_bill 41 = .ok (.aload_n 0, 1) := by decide +kernel
theorem dX3_bill_42 : decode cX3_bill 42 = .ok (.getfield 19, 3) := by decide +kernel
theorem dX3_bill_45 : decode cX3_bill 45 = .ok (.getfield 210, 3) := by decide +kernel
theorem dX3_bill_48 : decode cX3_bill 48 = .ok (.iload_n 1, 1) := by decide +kernel
theorem dX3_bill_49 : decode cX3_bill 49 = .ok (.iload_n 2, 1) := by decide +kernel
theorem dX3_bill_50 : decode cX3_bill 50 = .ok (.iastore, 1) := by decide +kernel
theorem dX3_bill_51 : decode cX3_bill 51 = .ok (.iload_n 3, 1) := by decide +kernel
theorem dX3_bill_52 : decode cX3_bill 52 = .ok (.ireturn, 1) := by decide +kernel
theorem dX3_set_0 : decode cX3_set 0 = .ok (.iload_n 1, 1) := by decide +kernel
theorem dX3_set_1 : decode cX3_set 1 = .ok (.iload_n 2, 1) := by decide +kernel
theorem dX3_set_2 : decode cX3_set 2 = .ok (.invokestatic 213, 3) := by decide +kernel
theorem dX3_set_5 : decode cX3_set 5 = .ok (.ifCond .ne 13, 3) := by decide +kernel
theorem dX3_set_8 : decode cX3_set 8 = .ok (.new 44, 3) := by decide +kernel
theorem dX3_set_11 : decode cX3_set 11 = .ok (.dup, 1) := by decide +kernel
theorem dX3_set_12 : decode cX3_set 12 = .ok (.ldc 216, 2) := by decide +kernel
theorem dX3_set_14 : decode cX3_set 14 = .ok (.invokespecial 48, 3) := by decide +kernel
theorem dX3_set_17 : decode cX3_set 17 = .ok (.athrow, 1) := by decide +kernel
theorem dX3_set_18 : decode cX3_set 18 = .ok (.aload_n 0, 1) := by decide +kernel
theorem dX3_set_19 : decode cX3_set 19 = .ok (.getfield 19, 3) := by decide +kernel
theorem dX3_set_22 : decode cX3_set 22 = .ok (.getfield 176, 3) := by decide +kernel
theorem dX3_set_25 : decode cX3_set 25 = .ok (.iload_n 1, 1) := by decide +kernel
theorem dX3_set_26 : decode cX3_set 26 = .ok (.invokestatic 108, 3) := by decide +kernel
theorem dX3_set_29 : decode cX3_set 29 = .ok (.istore_n 3, 1) := by decide +kernel
theorem dX3_set_30 : decode cX3_set 30 = .ok (.aload_n 0, 1) := by decide +kernel
theorem dX3_set_31 : decode cX3_set 31 = .ok (.invokevirtual 189, 3) := by decide +kernel
theorem dX3_set_34 : decode cX3_set 34 = .ok (.aload_n 0, 1) := by decide +kernel
theorem dX3_set_35 : decode cX3_set 35 = .ok (.getfield 19, 3) := by decide +kernel
theorem dX3_set_38 : decode cX3_set 38 = .ok (.iload_n 1, 1) := by decide +kernel
theorem dX3_set_39 : decode cX3_set 39 = .ok (.iload_n 2, 1) := by decide +kernel
theorem dX3_set_40 : decode cX3_set 40 = .ok (.invokevirtual 218, 3) := by decide +kernel
theorem dX3_set_43 : decode cX3_set 43 = .ok (.pop, 1) := by decide +kernel
theorem dX3_set_44 : decode cX3_set 44 = .ok (.iload_n 3, 1) := by decide +kernel
theorem dX3_set_45 : decode cX3_set 45 = .ok (.ireturn, 1) := by decide +kernel
theorem dX3_leave_0 : decode cX3_leave 0 = .ok (.aload_n 0, 1) := by decide +kernel
theorem dX3_leave_1 : decode cX3_leave 1 = .ok (.getfield 19, 3) := by decide +kernel
theorem dX3_leave_4 : decode cX3_leave 4 = .ok (.getfield 79, 3) := by decide +kernel
theorem dX3_leave_7 : decode cX3_leave 7 = .ok (.ifCond .ne 13, 3) := by decide +kernel
theorem dX3_leave_10 : decode cX3_leave 10 = .ok (.new 55, 3) := by decide +kernel
theorem dX3_leave_13 : decode cX3_leave 13 = .ok (.dup, 1) := by decide +kernel
theorem dX3_leave_14 : decode cX3_leave 14 = .ok (.ldc 221, 2) := by decide +kernel
theorem dX3_leave_16 : decode cX3_leave 16 = .ok (.invokespecial 59, 3) := by decide +kernel
theorem dX3_leave_19 : decode cX3_leave 19 = .ok (.athrow, 1) := by decide +kernel
theorem dX3_leave_20 : decode cX3_leave 20 = .ok (.aload_n 0, 1) := by decide +kernel
theorem dX3_leave_21 : decode cX3_leave 21 = .ok (.getfield 29, 3) := by decide +kernel
theorem dX3_leave_24 : decode cX3_leave 24 = .ok (.aload_n 0, 1) := by decide +kernel
theorem dX3_leave_25 : decode cX3_leave 25 = .ok (.getfield 19, 3) := by decide +kernel
theorem dX3_leave_28 : decode cX3_leave 28 = .ok (.invokevirtual 75, 3) := by decide +kernel
theorem dX3_leave_31 : decode cX3_leave 31 = .ok (.aload_n 0, 1) := by decide +kernel
theorem dX3_leave_32 : decode cX3_leave 32 = .ok (.getfield 29, 3) := by decide +kernel
theorem dX3_leave_35 : decode cX3_leave 35 = .ok (.aload_n 0, 1) := by decide +kernel
theorem dX3_leave_36 : decode cX3_leave 36 = .ok (.getfield 19, 3) := by decide +kernel
theorem dX3_leave_39 : decode cX3_leave 39 = .ok (.iconst 0, 1) := by decide +kernel
theorem dX3_leave_40 : decode cX3_leave 40 = .ok (.invokevirtual 156, 3) := by decide +kernel
theorem dX3_leave_43 : decode cX3_leave 43 = .ok (.istore_n 1, 1) := by decide +kernel
theorem dX3_leave_44 : decode cX3_leave 44 = .ok (.aload_n 0, 1) := by decide +kernel
theorem dX3_leave_45 : decode cX3_leave 45 = .ok (.invokevirtual 189, 3) := by decide +kernel
theorem dX3_leave_48 : decode cX3_leave 48 = .ok (.aload_n 0, 1) := by decide +kernel
theorem dX3_leave_49 : decode cX3_leave 49 = .ok (.getfield 19, 3) := by decide +kernel
theorem dX3_leave_52 : decode cX3_leave 52 = .ok (.invokevirtual 223, 3) := by decide +kernel
theorem dX3_leave_55 : decode cX3_leave 55 = .ok (.pop, 1) := by decide +kernel
theorem dX3_leave_56 : decode cX3_leave 56 = .ok (.iload_n 1, 1) := by decide +kernel
theorem dX3_leave_57 : decode cX3_leave 57 = .ok (.ireturn, 1) := by decide +kernel
theorem dX3_undo_0 : decode cX3_undo 0 = .ok (.aload_n 0, 1) := by decide +kernel
theorem dX3_undo_1 : decode cX3_undo 1 = .ok (.getfield 227, 3) := by decide +kernel
theorem dX3_undo_4 : decode cX3_undo 4 = .ok (.ifCond .ne 13, 3) := by decide +kernel
theorem dX3_undo_7 : decode cX3_undo 7 = .ok (.new 55, 3) := by decide +kernel
theorem dX3_undo_10 : decode cX3_undo 10 = .ok (.dup, 1) := by decide +kernel
theorem dX3_undo_11 : decode cX3_undo 11 = .ok (.ldc 230, 2) := by decide +kernel
theorem dX3_undo_13 : decode cX3_undo 13 = .ok (.invokespecial 59, 3) := by decide +kernel
theorem dX3_undo_16 : decode cX3_undo 16 = .ok (.athrow, 1) := by decide +kernel
theorem dX3_undo_17 : decode cX3_undo 17 = .ok (.aload_n 0, 1) := by decide +kernel
theorem dX3_undo_18 : decode cX3_undo 18 = .ok (.dup, 1) := by decide +kernel
theorem dX3_undo_19 : decode cX3_undo 19 = .ok (.getfield 227, 3) := by decide +kernel
theorem dX3_undo_22 : decode cX3_undo 22 = .ok (.iconst 1, 1) := by decide +kernel
theorem dX3_undo_23 : decode cX3_undo 23 = .ok (.isub, 1) := by decide +kernel
theorem dX3_undo_24 : decode cX3_undo 24 = .ok (.putfield 227, 3) := by decide +kernel
theorem dX3_undo_27 : decode cX3_undo 27 = .ok (.aload_n 0, 1) := by decide +kernel
theorem dX3_undo_28 : decode cX3_undo 28 = .ok (.aload_n 0, 1) := by decide +kernel
theorem dX3_undo_29 : decode cX3_undo 29 = .ok (.getfield 232, 3) := by decide +kernel
theorem dX3_undo_32 : decode cX3_undo 32 = .ok (.bipush 14, 2) := by decide +kernel
theorem dX3_undo_34 : decode cX3_undo 34 = .ok (.iadd, 1) := by decide +kernel
theorem dX3_undo_35 : decode cX3_undo 35 = .ok (.iconst 1, 1) := by decide +kernel
theorem dX3_undo_36 : decode cX3_undo 36 = .ok (.isub, 1) := by decide +kernel
theorem dX3_undo_37 : decode cX3_undo 37 = .ok (.bipush 14, 2) := by decide +kernel
theorem dX3_undo_39 : decode cX3_undo 39 = .ok (.irem, 1) := by decide +kernel
theorem dX3_undo_40 : decode cX3_undo 40 = .ok (.putfield 232, 3) := by decide +kernel
theorem dX3_undo_43 : decode cX3_undo 43 = .ok (.aload_n 0, 1) := by decide +kernel
theorem dX3_undo_44 : decode cX3_undo 44 = .ok (.getfield 33, 3) := by decide +kernel
theorem dX3_undo_47 : decode cX3_undo 47 = .ok (.aload_n 0, 1) := by decide +kernel
theorem dX3_undo_48 : decode cX3_undo 48 = .ok (.getfield 232, 3) := by decide +kernel
theorem dX3_undo_51 : decode cX3_undo 51 = .ok (.aaload, 1) := by decide +kernel
theorem dX3_undo_52 : decode cX3_undo 52 = .ok (.aload_n 0, 1) := by decide +kernel
theorem dX3_undo_53 : decode cX3_undo 53 = .ok (.getfield 19, 3) := by decide +kernel
theorem dX3_undo_56 : decode cX3_undo 56 = .ok (.invokestatic 235, 3) := by decide +kernel
theorem dX3_undo_59 : decode cX3_undo 59 = .ok (.aload_n 0, 1) := by decide +kernel
theorem dX3_undo_60 : decode cX3_undo 60 = .ok (.getfield 227, 3) := by decide +kernel
theorem dX3_undo_63 : decode cX3_undo 63 = .ok (.ireturn, 1) := by decide +kernel
theorem dX3_without_0 : decode cX3_without 0 = .ok (.aload_n 0, 1) := by decide +kernel
theorem dX3_without_1 : decode cX3_without 1 = .ok (.iload_n 1, 1) := by decide +kernel
theorem dX3_without_2 : decode cX3_without 2 = .ok (.invokevirtual 98, 3) := by decide +kernel
theorem dX3_without_5 : decode cX3_without 5 = .ok (.aload_n 0, 1) := by decide +kernel
theorem dX3_without_6 : decode cX3_without 6 = .ok (.getfield 19, 3) := by decide +kernel
theorem dX3_without_9 : decode cX3_without 9 = .ok (.aload_n 0, 1) := by decide +kernel
theorem dX3_without_10 : decode cX3_without 10 = .ok (.getfield 23, 3) := by decide +kernel
theorem dX3_without_13 : decode cX3_without 13 = .ok (.invokestatic 235, 3) := by decide +kernel
theorem dX3_without_16 : decode cX3_without 16 = .ok (.aload_n 0, 1) := by decide +kernel
theorem dX3_without_17 : decode cX3_without 17 = .ok (.getfield 23, 3) := by decide +kernel
theorem dX3_without_20 : decode cX3_without 20 = .ok (.iload_n 1, 1) := by decide +kernel
theorem dX3_without_21 : decode cX3_without 21 = .ok (.invokevirtual 200, 3) := by decide +kernel
theorem dX3_without_24 : decode cX3_without 24 = .ok (.pop, 1) := by decide +kernel
theorem dX3_without_25 : decode cX3_without 25 = .ok (.aload_n 0, 1) := by decide +kernel
theorem dX3_without_26 : decode cX3_without 26 = .ok (.getfield 29, 3) := by decide +kernel
theorem dX3_without_29 : decode cX3_without 29 = .ok (.aload_n 0, 1) := by decide +kernel
theorem dX3_without_30 : decode cX3_without 30 = .ok (.getfield 23, 3) := by decide +kernel
theorem dX3_without_33 : decode cX3_without 33 = .ok (.invokevirtual 75, 3) := by decide +kernel
theorem dX3_without_36 : decode cX3_without 36 = .ok (.aload_n 0, 1) := by decide +kernel
theorem dX3_without_37 : decode cX3_without 37 = .ok (.getfield 29, 3) := by decide +kernel
theorem dX3_without_40 : decode cX3_without 40 = .ok (.getfield 88, 3) := by decide +kernel
theorem dX3_without_43 : decode cX3_without 43 = .ok (.ireturn, 1) := by decide +kernel
theorem dX3_suspect_0 : decode cX3_suspect 0 = .ok (.aload_n 0, 1) := by decide +kernel
theorem dX3_suspect_1 : decode cX3_suspect 1 = .ok (.getfield 29, 3) := by decide +kernel
theorem dX3_suspect_4 : decode cX3_suspect 4 = .ok (.aload_n 0, 1) := by decide +kernel
theorem dX3_suspect_5 : decode cX3_suspect 5 = .ok (.getfield 19, 3) := by decide +kernel
theorem dX3_suspect_8 : decode cX3_suspect 8 = .ok (.invokevirtual 75, 3) := by decide +kernel
theorem dX3_suspect_11 : decode cX3_suspect 11 = .ok (.aload_n 0, 1) := by decide +kernel
theorem dX3_suspect_12 : decode cX3_suspect 12 = .ok (.getfield 29, 3) := by decide +kernel
theorem dX3_suspect_15 : decode cX3_suspect 15 = .ok (.getfield 91, 3) := by decide +kernel
theorem dX3_suspect_18 : decode cX3_suspect 18 = .ok (.istore_n 1, 1) := by decide +kernel
theorem dX3_suspect_19 : decode cX3_suspect 19 = .ok (.iconst (-1), 1) := by decide +kernel
theorem dX3_suspect_20 : decode cX3_suspect 20 = .ok (.istore_n 2, 1) := by decide +kernel
theorem dX3_suspect_21 : decode cX3_suspect 21 = .ok (.iconst 0, 1) := by decide +kernel
theorem dX3_suspect_22 : decode cX3_suspect 22 = .ok (.istore_n 3, 1) := by decide +kernel
theorem dX3_suspect_23 : decode cX3_suspect 23 = .ok (.iload_n 3, 1) := by decide +kernel
theorem dX3_suspect_24 : decode cX3_suspect 24 = .ok (.aload_n 0, 1) := by decide +kernel
theorem dX3_suspect_25 : decode cX3_suspect 25 = .ok (.getfield 19, 3) := by decide +kernel
theorem dX3_suspect_28 : decode cX3_suspect 28 = .ok (.getfield 79, 3) := by decide +kernel
theorem dX3_suspect_31 : decode cX3_suspect 31 = .ok (.if_icmp .ge 61, 3) := by decide +kernel
theorem dX3_suspect_34 : decode cX3_suspect 34 = .ok (.aload_n 0, 1) := by decide +kernel
theorem dX3_suspect_35 : decode cX3_suspect 35 = .ok (.getfield 19, 3) := by decide +kernel
theorem dX3_suspect_38 : decode cX3_suspect 38 = .ok (.aload_n 0, 1) := by decide +kernel
theorem dX3_suspect_39 : decode cX3_suspect 39 = .ok (.getfield 23, 3) := by decide +kernel
theorem dX3_suspect_42 : decode cX3_suspect 42 = .ok (.invokestatic 235, 3) := by decide +kernel
theorem dX3_suspect_45 : decode cX3_suspect 45 = .ok (.aload_n 0, 1) := by decide +kernel
theorem dX3_suspect_46 : decode cX3_suspect 46 = .ok (.getfield 23, 3) := by decide +kernel
theorem dX3_suspect_49 : decode cX3_suspect 49 = .ok (.iload_n 3, 1) := by decide +kernel
theorem dX3_suspect_50 : decode cX3_suspect 50 = .ok (.invokevirtual 200, 3) := by decide +kernel
theorem dX3_suspect_53 : decode cX3_suspect 53 = .ok (.pop, 1) := by decide +kernel
theorem dX3_suspect_54 : decode cX3_suspect 54 = .ok (.aload_n 0, 1) := by decide +kernel
theorem dX3_suspect_55 : decode cX3_suspect 55 = .ok (.getfield 29, 3) := by decide +kernel
theorem dX3_suspect_58 : decode cX3_suspect 58 = .ok (.aload_n 0, 1) := by decide +kernel
theorem dX3_suspect_59 : decode cX3_suspect 59 = .ok (.getfield 23, 3) := by decide +kernel
theorem dX3_suspect_62 : decode cX3_suspect 62 = .ok (.invokevirtual 75, 3) := by decide +kernel
theorem dX3_suspect_65 : decode cX3_suspect 65 = .ok (.aload_n 0, 1) := by decide +kernel
theorem dX3_suspect_66 : decode cX3_suspect 66 = .ok (.getfield 29, 3) := by decide +kernel
theorem dX3_suspect_69 : decode cX3_suspect 69 = .ok (.getfield 91, 3) := by decide +kernel
theorem dX3_suspect_72 : decode cX3_suspect 72 = .ok (.iload_n 1, 1) := by decide +kernel
theorem dX3_suspect_73 : decode cX3_suspect 73 = .ok (.if_icmp .ge 13, 3) := by decide +kernel
theorem dX3_suspect_76 : decode cX3_suspect 76 = .ok (.aload_n 0, 1) := by decide +kernel
theorem dX3_suspect_77 : decode cX3_suspect 77 = .ok (.getfield 29, 3) := by decide +kernel
theorem dX3_suspect_80 : decode cX3_suspect 80 = .ok (.getfield 91, 3) := by decide +kernel
theorem dX3_suspect_83 : decode cX3_suspect 83 = .ok (.istore_n 1, 1) := by decide +kernel
theorem dX3_suspect_84 : decode cX3_suspect 84 = .ok (.iload_n 3, 1) := by decide +kernel
theorem dX3_suspect_85 : decode cX3_suspect 85 = .ok (.istore_n 2, 1) := by decide +kernel
theorem dX3_suspect_86 : decode cX3_suspect 86 = .ok (.iinc 3 1, 3) := by decide +kernel
theorem dX3_suspect_89 : decode cX3_suspect 89 = .ok (.goto (-66), 3) := by decide +kernel
theorem dX3_suspect_92 : decode cX3_suspect 92 = .ok (.iload_n 2, 1) := by decide +kernel
theorem dX3_suspect_93 : decode cX3_suspect 93 = .ok (.ireturn, 1) := by decide +kernel
theorem dX3_bestBase_0 : decode cX3_bestBase 0 = .ok (.iconst (-1), 1) := by decide +kernel
theorem dX3_bestBase_1 : decode cX3_bestBase 1 = .ok (.istore_n 1, 1) := by decide +kernel
theorem dX3_bestBase_2 : decode cX3_bestBase 2 = .ok (.iconst 0, 1) := by decide +kernel
theorem dX3_bestBase_3 : decode cX3_bestBase 3 = .ok (.istore_n 2, 1) := by decide +kernel
theorem dX3_bestBase_4 : decode cX3_bestBase 4 = .ok (.aload_n 0, 1) := by decide +kernel
theorem dX3_bestBase_5 : decode cX3_bestBase 5 = .ok (.getfield 19, 3) := by decide +kernel
theorem dX3_bestBase_8 : decode cX3_bestBase 8 = .ok (.aload_n 0, 1) := by decide +kernel
theorem dX3_bestBase_9 : decode cX3_bestBase 9 = .ok (.getfield 23, 3) := by decide +kernel
theorem dX3_bestBase_12 : decode cX3_bestBase 12 = .ok (.invokestatic 235, 3) := by decide +kernel
theorem dX3_bestBase_15 : decode cX3_bestBase 15 = .ok (.getstatic 239, 3) := by decide +kernel
theorem dX3_bestBase_18 : decode cX3_bestBase 18 = .ok (.iconst 0, 1) := by decide +kernel
theorem dX3_bestBase_19 : decode cX3_bestBase 19 = .ok (.iaload, 1) := by decide +kernel
theorem dX3_bestBase_20 : decode cX3_bestBase 20 = .ok (.istore_n 3, 1) := by decide +kernel
theorem dX3_bestBase_21 : decode cX3_bestBase 21 = .ok (.iload_n 3, 1) := by decide +kernel
theorem dX3_bestBase_22 : decode cX3_bestBase 22 = .ok (.getstatic 242, 3) := by decide +kernel
theorem dX3_bestBase_25 : decode cX3_bestBase 25 = .ok (.iconst 0, 1) := by decide +kernel
theorem dX3_bestBase_26 : decode cX3_bestBase 26 = .ok (.iaload, 1) := by decide +kernel
theorem dX3_bestBase_27 : decode cX3_bestBase 27 = .ok (.if_icmp .gt 56, 3) := by decide +kernel
theorem dX3_bestBase_30 : decode cX3_bestBase 30 = .ok (.aload_n 0, 1) := by decide +kernel
theorem dX3_bestBase_31 : decode cX3_bestBase 31 = .ok (.getfield 23, 3) := by decide +kernel
theorem dX3_bestBase_34 : decode cX3_bestBase 34 = .ok (.iconst 0, 1) := by decide +kernel
theorem dX3_bestBase_35 : decode cX3_bestBase 35 = .ok (.iload_n 3, 1) := by decide +kernel
theorem dX3_bestBase_36 : decode cX3_bestBase 36 = .ok (.invokevirtual 218, 3) := by decide +kernel
theorem dX3_bestBase_39 : decode cX3_bestBase 39 = .ok (.pop, 1) := by decide +kernel
theorem dX3_bestBase_40 : decode cX3_bestBase 40 = .ok (.aload_n 0, 1) := by decide +kernel
theorem dX3_bestBase_41 : decode cX3_bestBase 41 = .ok (.getfield 29, 3) := by decide +kernel
theorem dX3_bestBase_44 : decode cX3_bestBase 44 = .ok (.aload_n 0, 1) := by decide +kernel
theorem dX3_bestBase_45 : decode cX3_bestBase 45 = .ok (.getfield 23, 3) := by decide +kernel
theorem dX3_bestBase_48 : decode cX3_bestBase 48 = .ok (.invokevirtual 75, 3) := by decide +kernel
theorem dX3_bestBase_51 : decode cX3_bestBase 51 = .ok (.iload_n 1, 1) := by decide +kernel
theorem dX3_bestBase_52 : decode cX3_bestBase 52 = .ok (.iconst (-1), 1) := by decide +kernel
theorem dX3_bestBase_53 : decode cX3_bestBase 53 = .ok (.if_icmp .eq 14, 3) := by decide +kernel
theorem dX3_bestBase_56 : decode cX3_bestBase 56 = .ok (.aload_n 0, 1) := by decide +kernel
theorem dX3_bestBase_57 : decode cX3_bestBase 57 = .ok (.getfield 29, 3) := by decide +kernel
theorem dX3_bestBase_60 : decode cX3_bestBase 60 = .ok (.getfield 91, 3) := by decide +kernel
theorem dX3_bestBase_63 : decode cX3_bestBase 63 = .ok (.iload_n 2, 1) := by decide +kernel
theorem dX3_bestBase_64 : decode cX3_bestBase 64 = .ok (.if_icmp .ge 13, 3) := by decide +kernel
theorem dX3_bestBase_67 : decode cX3_bestBase 67 = .ok (.aload_n 0, 1) := by decide +kernel
theorem dX3_bestBase_68 : decode cX3_bestBase 68 = .ok (.getfield 29, 3) := by decide +kernel
theorem dX3_bestBase_71 : decode cX3_bestBase 71 = .ok (.getfield 91, 3) := by decide +kernel
theorem dX3_bestBase_74 : decode cX3_bestBase 74 = .ok (.istore_n 2, 1) := by decide +kernel
theorem dX3_bestBase_75 : decode cX3_bestBase 75 = .ok (.iload_n 3, 1) := by decide +kernel
theorem dX3_bestBase_76 : decode cX3_bestBase 76 = .ok (.istore_n 1, 1) := by decide +kernel
theorem dX3_bestBase_77 : decode cX3_bestBase 77 = .ok (.iinc 3 1, 3) := by decide +kernel
theorem dX3_bestBase_80 : decode cX3_bestBase 80 = .ok (.goto (-59), 3) := by decide +kernel
theorem dX3_bestBase_83 : decode cX3_bestBase 83 = .ok (.iload_n 1, 1) := by decide +kernel
theorem dX3_bestBase_84 : decode cX3_bestBase 84 = .ok (.ireturn, 1) := by decide +kernel
theorem dX3_sureness_0 : decode cX3_sureness 0 = .ok (.aload_n 0, 1) := by decide +kernel
theorem dX3_sureness_1 : decode cX3_sureness 1 = .ok (.iload_n 1, 1) := by decide +kernel
theorem dX3_sureness_2 : decode cX3_sureness 2 = .ok (.invokevirtual 98, 3) := by decide +kernel
theorem dX3_sureness_5 : decode cX3_sureness 5 = .ok (.aload_n 0, 1) := by decide +kernel
theorem dX3_sureness_6 : decode cX3_sureness 6 = .ok (.getfield 29, 3) := by decide +kernel
theorem dX3_sureness_9 : decode cX3_sureness 9 = .ok (.aload_n 0, 1) := by decide +kernel
theorem dX3_sureness_10 : decode cX3_sureness 10 = .ok (.getfield 19, 3) := by decide +kernel
theorem dX3_sureness_13 : decode cX3_sureness 13 = .ok (.invokevirtual 75, 3) := by decide +kernel
theorem dX3_sureness_16 : decode cX3_sureness 16 = .ok (.aload_n 0, 1) := by decide +kernel
theorem dX3_sureness_17 : decode cX3_sureness 17 = .ok (.getfield 29, 3) := by decide +kernel
theorem dX3_sureness_20 : decode cX3_sureness 20 = .ok (.getfield 115, 3) := by decide +kernel
theorem dX3_sureness_23 : decode cX3_sureness 23 = .ok (.iload_n 1, 1) := by decide +kernel
theorem dX3_sureness_24 : decode cX3_sureness 24 = .ok (.invokestatic 108, 3) := by decide +kernel
theorem dX3_sureness_27 : decode cX3_sureness 27 = .ok (.istore_n 2, 1) := by decide +kernel
theorem dX3_sureness_28 : decode cX3_sureness 28 = .ok (.aload_n 0, 1) := by decide +kernel
theorem dX3_sureness_29 : decode cX3_sureness 29 = .ok (.getfield 29, 3) := by decide +kernel
theorem dX3_sureness_32 : decode cX3_sureness 32 = .ok (.aload_n 0, 1) := by decide +kernel
theorem dX3_sureness_33 : decode cX3_sureness 33 = .ok (.getfield 19, 3) := by decide +kernel
theorem dX3_sureness_36 : decode cX3_sureness 36 = .ok (.iload_n 2, 1) := by decide +kernel
theorem dX3_sureness_37 : decode cX3_sureness 37 = .ok (.iload_n 1, 1) := by decide +kernel
theorem dX3_sureness_38 : decode cX3_sureness 38 = .ok (.invokevirtual 245, 3) := by decide +kernel
theorem dX3_sureness_41 : decode cX3_sureness 41 = .ok (.aload_n 0, 1) := by decide +kernel
theorem dX3_sureness_42 : decode cX3_sureness 42 = .ok (.getfield 29, 3) := by decide +kernel
theorem dX3_sureness_45 : decode cX3_sureness 45 = .ok (.getfield 159, 3) := by decide +kernel
theorem dX3_sureness_48 : decode cX3_sureness 48 = .ok (.iload_n 2, 1) := by decide +kernel
theorem dX3_sureness_49 : decode cX3_sureness 49 = .ok (.invokestatic 108, 3) := by decide +kernel
theorem dX3_sureness_52 : decode cX3_sureness 52 = .ok (.isub, 1) := by decide +kernel
theorem dX3_sureness_53 : decode cX3_sureness 53 = .ok (.ireturn, 1) := by decide +kernel
theorem dX3_plans_0 : decode cX3_plans 0 = .ok (.aload_n 0, 1) := by decide +kernel
theorem dX3_plans_1 : decode cX3_plans 1 = .ok (.getfield 29, 3) := by decide +kernel
theorem dX3_plans_4 : decode cX3_plans 4 = .ok (.aload_n 0, 1) := by decide +kernel
theorem dX3_plans_5 : decode cX3_plans 5 = .ok (.getfield 19, 3) := by decide +kernel
theorem dX3_plans_8 : decode cX3_plans 8 = .ok (.invokevirtual 75, 3) := by decide +kernel
theorem dX3_plans_11 : decode cX3_plans 11 = .ok (.aload_n 0, 1) := by decide +kernel
theorem dX3_plans_12 : decode cX3_plans 12 = .ok (.iload_n 1, 1) := by decide +kernel
theorem dX3_plans_13 : decode cX3_plans 13 = .ok (.invokevirtual 142, 3) := by decide +kernel
theorem dX3_plans_16 : decode cX3_plans 16 = .ok (.aload_n 0, 1) := by decide +kernel
theorem dX3_plans_17 : decode cX3_plans 17 = .ok (.getfield 29, 3) := by decide +kernel
theorem dX3_plans_20 : decode cX3_plans 20 = .ok (.iload_n 1, 1) := by decide +kernel
theorem dX3_plans_21 : decode cX3_plans 21 = .ok (.invokevirtual 150, 3) := by decide +kernel
theorem dX3_plans_24 : decode cX3_plans 24 = .ok (.istore_n 2, 1) := by decide +kernel
theorem dX3_plans_25 : decode cX3_plans 25 = .ok (.iconst 1, 1) := by decide +kernel
theorem dX3_plans_26 : decode cX3_plans 26 = .ok (.istore_n 3, 1) := by decide +kernel
theorem dX3_plans_27 : decode cX3_plans 27 = .ok (.iconst 1, 1) := by decide +kernel
theorem dX3_plans_28 : decode cX3_plans 28 = .ok (.istore 4, 2) := by decide +kernel
theorem dX3_plans_30 : decode cX3_plans 30 = .ok (.iconst 2, 1) := by decide +kernel
theorem dX3_plans_31 : decode cX3_plans 31 = .ok (.istore 5, 2) := by decide +kernel
theorem dX3_plans_33 : decode cX3_plans 33 = .ok (.iload 5, 2) := by decide +kernel
theorem dX3_plans_35 : decode cX3_plans 35 = .ok (.iload_n 2, 1) := by decide +kernel
theorem dX3_plans_36 : decode cX3_plans 36 = .ok (.if_icmp .gt 22, 3) := by decide +kernel
theorem dX3_plans_39 : decode cX3_plans 39 = .ok (.iload_n 3, 1) := by decide +kernel
theorem dX3_plans_40 : decode cX3_plans 40 = .ok (.iload 4, 2) := by decide +kernel
theorem dX3_plans_42 : decode cX3_plans 42 = .ok (.iadd, 1) := by decide +kernel
theorem dX3_plans_43 : decode cX3_plans 43 = .ok (.istore 6, 2) := by decide +kernel
theorem dX3_plans_45 : decode cX3_plans 45 = .ok (.iload 4, 2) := by decide +kernel
theorem dX3_plans_47 : decode cX3_plans 47 = .ok (.istore_n 3, 1) := by decide +kernel
theorem dX3_plans_48 : decode cX3_plans 48 = .ok (.iload 6, 2) := by decide +kernel
theorem dX3_plans_50 : decode cX3_plans 50 = .ok (.istore 4, 2) := by decide +kernel
theorem dX3_plans_52 : decode cX3_plans 52 = .ok (.iinc 5 1, 3) := by decide +kernel
theorem dX3_plans_55 : decode cX3_plans 55 = .ok (.goto (-22), 3) := by decide +kernel
theorem dX3_plans_58 : decode cX3_plans 58 = .ok (.iload 4, 2) := by decide +kernel
theorem dX3_plans_60 : decode cX3_plans 60 = .ok (.ldc 249, 2) := by decide +kernel
theorem dX3_plans_62 : decode cX3_plans 62 = .ok (.invokestatic 250, 3) := by decide +kernel
theorem dX3_plans_65 : decode cX3_plans 65 = .ok (.ireturn, 1) := by decide +kernel
theorem dX3_heavy_0 : decode cX3_heavy 0 = .ok (.iload_n 1, 1) := by decide +kernel
theorem dX3_heavy_1 : decode cX3_heavy 1 = .ok (.ifCond .ge 14, 3) := by decide +kernel
theorem dX3_heavy_4 : decode cX3_heavy 4 = .ok (.new 44, 3) := by decide +kernel
theorem dX3_heavy_7 : decode cX3_heavy 7 = .ok (.dup, 1) := by decide +kernel
theorem dX3_heavy_8 : decode cX3_heavy 8 = .ok (.ldc_w 256, 3) := by decide +kernel
theorem dX3_heavy_11 : decode cX3_heavy 11 = .ok (.invokespecial 48, 3) := by decide +kernel
theorem dX3_heavy_14 : decode cX3_heavy 14 = .ok (.athrow, 1) := by decide +kernel
theorem dX3_heavy_15 : decode cX3_heavy 15 = .ok (.aload_n 0, 1) := by decide +kernel
theorem dX3_heavy_16 : decode cX3_heavy 16 = .ok (.getfield 29, 3) := by decide +kernel
theorem dX3_heavy_19 : decode cX3_heavy 19 = .ok (.aload_n 0, 1) := by decide +kernel
theorem dX3_heavy_20 : decode cX3_heavy 20 = .ok (.getfield 19, 3) := by decide +kernel
theorem dX3_heavy_23 : decode cX3_heavy 23 = .ok (.invokevirtual 75, 3) := by decide +kernel
theorem dX3_heavy_26 : decode cX3_heavy 26 = .ok (.iconst 0, 1) := by decide +kernel
theorem dX3_heavy_27 : decode cX3_heavy 27 = .ok (.istore_n 2, 1) := by decide +kernel
theorem dX3_heavy_28 : decode cX3_heavy 28 = .ok (.iconst 0, 1) := by decide +kernel
theorem dX3_heavy_29 : decode cX3_heavy 29 = .ok (.istore_n 3, 1) := by decide +kernel
theorem dX3_heavy_30 : decode cX3_heavy 30 = .ok (.iload_n 3, 1) := by decide +kernel
theorem dX3_heavy_31 : decode cX3_heavy 31 = .ok (.aload_n 0, 1) := by decide +kernel
theorem dX3_heavy_32 : decode cX3_heavy 32 = .ok (.getfield 29, 3) := by decide +kernel
theorem dX3_heavy_35 : decode cX3_heavy 35 = .ok (.getfield 85, 3) := by decide +kernel
theorem dX3_heavy_38 : decode cX3_heavy 38 = .ok (.if_icmp .ge 42, 3) := by decide +kernel
theorem dX3_heavy_41 : decode cX3_heavy 41 = .ok (.aload_n 0, 1) := by decide +kernel
theorem dX3_heavy_42 : decode cX3_heavy 42 = .ok (.getfield 29, 3) := by decide +kernel
theorem dX3_heavy_45 : decode cX3_heavy 45 = .ok (.getfield 128, 3) := by decide +kernel
theorem dX3_heavy_48 : decode cX3_heavy 48 = .ok (.iload_n 3, 1) := by decide +kernel
theorem dX3_heavy_49 : decode cX3_heavy 49 = .ok (.invokestatic 108, 3) := by decide +kernel
theorem dX3_heavy_52 : decode cX3_heavy 52 = .ok (.istore 4, 2) := by decide +kernel
theorem dX3_heavy_54 : decode cX3_heavy 54 = .ok (.aload_n 0, 1) := by decide +kernel
theorem dX3_heavy_55 : decode cX3_heavy 55 = .ok (.getfield 19, 3) := by decide +kernel
theorem dX3_heavy_58 : decode cX3_heavy 58 = .ok (.iload 4, 2) := by decide +kernel
theorem dX3_heavy_60 : decode cX3_heavy 60 = .ok (.invokevirtual 131, 3) := by decide +kernel
theorem dX3_heavy_63 : decode cX3_heavy 63 = .ok (.iload_n 1, 1) := by decide +kernel
theorem dX3_heavy_64 : decode cX3_heavy 64 = .ok (.if_icmp .lt 10, 3) := by decide +kernel
theorem dX3_heavy_67 : decode cX3_heavy 67 = .ok (.iload_n 2, 1) := by decide +kernel
theorem dX3_heavy_68 : decode cX3_heavy 68 = .ok (.iconst 3, 1) := by decide +kernel
theorem dX3_heavy_69 : decode cX3_heavy 69 = .ok (.iload 4, 2) := by decide +kernel
theorem dX3_heavy_71 : decode cX3_heavy 71 = .ok (.ishl, 1) := by decide +kernel
theorem dX3_heavy_72 : decode cX3_heavy 72 = .ok (.ior, 1) := by decide +kernel
theorem dX3_heavy_73 : decode cX3_heavy 73 = .ok (.istore_n 2, 1) := by decide +kernel
theorem dX3_heavy_74 : decode cX3_heavy 74 = .ok (.iinc 3 1, 3) := by decide +kernel
theorem dX3_heavy_77 : decode cX3_heavy 77 = .ok (.goto (-47), 3) := by decide +kernel
theorem dX3_heavy_80 : decode cX3_heavy 80 = .ok (.iload_n 2, 1) := by decide +kernel
theorem dX3_heavy_81 : decode cX3_heavy 81 = .ok (.ireturn, 1) := by decide +kernel
theorem dX3_runScript_0 : decode cX3_runScript 0 = .ok (.iload_n 1, 1) := by decide +kernel
theorem dX3_runScript_1 : decode cX3_runScript 1 = .ok (.iconst 1, 1) := by decide +kernel
theorem dX3_runScript_2 : decode cX3_runScript 2 = .ok (.if_icmp .lt 8, 3) := by decide +kernel
theorem dX3_runScript_5 : decode cX3_runScript 5 = .ok (.iload_n 1, 1) := by decide +kernel
theorem dX3_runScript_6 : decode cX3_runScript 6 = .ok (.iconst 3, 1) := by decide +kernel
theorem dX3_runScript_7 : decode cX3_runScript 7 = .ok (.if_icmp .le 14, 3) := by decide +kernel
theorem dX3_runScript_10 : decode cX3_runScript 10 = .ok (.new 44, 3) := by decide +kernel
theorem dX3_runScript_13 : decode cX3_runScript 13 = .ok (.dup, 1) := by decide +kernel
theorem dX3_runScript_14 : decode cX3_runScript 14 = .ok (.ldc_w 258, 3) := by decide +kernel
theorem dX3_runScript_17 : decode cX3_runScript 17 = .ok (.invokespecial 48, 3) := by decide +kernel
theorem dX3_runScript_20 : decode cX3_runScript 20 = .ok (.athrow, 1) := by decide +kernel
theorem dX3_runScript_21 : decode cX3_runScript 21 = .ok (.lload_n 2, 1) := by decide +kernel
theorem dX3_runScript_22 : decode cX3_runScript 22 = .ok (.lconst 0, 1) := by decide +kernel
theorem dX3_runScript_23 : decode cX3_runScript 23 = .ok (.lcmp, 1) := by decide +kernel
theorem dX3_runScript_24 : decode cX3_runScript 24 = .ok (.ifCond .lt 13, 3) := by decide +kernel
theorem dX3_runScript_27 : decode cX3_runScript 27 = .ok (.lload_n 2, 1) := by decide +kernel
theorem dX3_runScript_28 : decode cX3_runScript 28 = .ok (.iload_n 1, 1) := by decide +kernel
theorem dX3_runScript_29 : decode cX3_runScript 29 = .ok (.invokestatic 260, 3) := by decide +kernel
theorem dX3_runScript_32 : decode cX3_runScript 32 = .ok (.lconst 0, 1) := by decide +kernel
theorem dX3_runScript_33 : decode cX3_runScript 33 = .ok (.lcmp, 1) := by decide +kernel
theorem dX3_runScript_34 : decode cX3_runScript 34 = .ok (.ifCond .eq 14, 3) := by decide +kernel
theorem dX3_runScript_37 : decode cX3_runScript 37 = .ok (.new 44, 3) := by decide +kernel
theorem dX3_runScript_40 : decode cX3_runScript 40 = .ok (.dup, 1) := by decide +kernel
theorem dX3_runScript_41 : decode cX3_runScript 41 = .ok (.ldc_w 264, 3) := by decide +kernel
theorem dX3_runScript_44 : decode cX3_runScript 44 = .ok (.invokespecial 48, 3) := by decide +kernel
theorem dX3_runScript_47 : decode cX3_runScript 47 = .ok (.athrow, 1) := by decide +kernel
theorem dX3_runScript_48 : decode cX3_runScript 48 = .ok (.aload_n 0, 1) := by decide +kernel
theorem dX3_runScript_49 : decode cX3_runScript 49 = .ok (.getfield 19, 3) := by decide +kernel
theorem dX3_runScript_52 : decode cX3_runScript 52 = .ok (.aload_n 0, 1) := by decide +kernel
theorem dX3_runScript_53 : decode cX3_runScript 53 = .ok (.getfield 23, 3) := by decide +kernel
theorem dX3_runScript_56 : decode cX3_runScript 56 = .ok (.invokestatic 235, 3) := by decide +kernel
theorem dX3_runScript_59 : decode cX3_runScript 59 = .ok (.iconst 0, 1) := by decide +kernel
theorem dX3_runScript_60 : decode cX3_runScript 60 = .ok (.istore 4, 2) := by decide +kernel
theorem dX3_runScript_62 : decode cX3_runScript 62 = .ok (.iload 4, 2) := by decide +kernel
theorem dX3_runScript_64 : decode cX3_runScript 64 = .ok (.iload_n 1, 1) := by decide +kernel
theorem dX3_runScript_65 : decode cX3_runScript 65 = .ok (.if_icmp .ge 34, 3) := by decide +kernel
theorem dX3_runScript_68 : decode cX3_runScript 68 = .ok (.aload_n 0, 1) := by decide +kernel
theorem dX3_runScript_69 : decode cX3_runScript 69 = .ok (.lload_n 2, 1) := by decide +kernel
theorem dX3_runScript_70 : decode cX3_runScript 70 = .ok (.iload_n 1, 1) := by decide +kernel
theorem dX3_runScript_71 : decode cX3_runScript 71 = .ok (.iconst 1, 1) := by decide +kernel
theorem dX3_runScript_72 : decode cX3_runScript 72 = .ok (.isub, 1) := by decide +kernel
theorem dX3_runScript_73 : decode cX3_runScript 73 = .ok (.iload 4, 2) := by decide +kernel
theorem dX3_runScript_75 : decode cX3_runScript 75 = .ok (.isub, 1) := by decide +kernel
theorem dX3_runScript_76 : decode cX3_runScript 76 = .ok (.invokestatic 260, 3) := by decide +kernel
theorem dX3_runScript_79 : decode cX3_runScript 79 = .ok (.ldc2_w 266, 3) := by decide +kernel
theorem dX3_runScript_82 : decode cX3_runScript 82 = .ok (.lrem, 1) := by decide +kernel
theorem dX3_runScript_83 : decode cX3_runScript 83 = .ok (.l2i, 1) := by decide +kernel
theorem dX3_runScript_84 : decode cX3_runScript 84 = .ok (.invokevirtual 268, 3) := by decide +kernel
theorem dX3_runScript_87 : decode cX3_runScript 87 = .ok (.ifCond .ne 6, 3) := by decide +kernel
theorem dX3_runScript_90 : decode cX3_runScript 90 = .ok (.iload 4, 2) := by decide +kernel
theorem dX3_runScript_92 : decode cX3_runScript 92 = .ok (.ireturn, 1) := by decide +kernel
theorem dX3_runScript_93 : decode cX3_runScript 93 = .ok (.iinc 4 1, 3) := by decide +kernel
theorem dX3_runScript_96 : decode cX3_runScript 96 = .ok (.goto (-34), 3) := by decide +kernel
theorem dX3_runScript_99 : decode cX3_runScript 99 = .ok (.iconst (-1), 1) := by decide +kernel
theorem dX3_runScript_100 : decode cX3_runScript 100 = .ok (.ireturn, 1) := by decide +kernel
theorem dX3_simulate_0 : decode cX3_simulate 0 = .ok (.iload_n 3, 1) := by decide +kernel
theorem dX3_simulate_1 : decode cX3_simulate 1 = .ok (.iconst 1, 1) := by decide +kernel
theorem dX3_simulate_2 : decode cX3_simulate 2 = .ok (.if_icmp .lt 9, 3) := by decide +kernel
theorem dX3_simulate_5 : decode cX3_simulate 5 = .ok (.iload_n 3, 1) := by decide +kernel
theorem dX3_simulate_6 : decode cX3_simulate 6 = .ok (.bipush 60, 2) := by decide +kernel
theorem dX3_simulate_8 : decode cX3_simulate 8 = .ok (.if_icmp .le 14, 3) := by decide +kernel
theorem dX3_simulate_11 : decode cX3_simulate 11 = .ok (.new 44, 3) := by decide +kernel
theorem dX3_simulate_14 : decode cX3_simulate 14 = .ok (.dup, 1) := by decide +kernel
theorem dX3_simulate_15 : decode cX3_simulate 15 = .ok (.ldc_w 271, 3) := by decide +kernel
theorem dX3_simulate_18 : decode cX3_simulate 18 = .ok (.invokespecial 48, 3) := by decide +kernel
theorem dX3_simulate_21 : decode cX3_simulate 21 = .ok (.athrow, 1) := by decide +kernel
theorem dX3_simulate_22 : decode cX3_simulate 22 = .ok (.aload_n 0, 1) := by decide +kernel
theorem dX3_simulate_23 : decode cX3_simulate 23 = .ok (.getfield 19, 3) := by decide +kernel
theorem dX3_simulate_26 : decode cX3_simulate 26 = .ok (.aload_n 0, 1) := by decide +kernel
theorem dX3_simulate_27 : decode cX3_simulate 27 = .ok (.getfield 23, 3) := by decide +kernel
theorem dX3_simulate_30 : decode cX3_simulate 30 = .ok (.invokestatic 235, 3) := by decide +kernel
theorem dX3_simulate_33 : decode cX3_simulate 33 = .ok (.lload_n 1, 1) := by decide +kernel
theorem dX3_simulate_34 : decode cX3_simulate 34 = .ok (.lstore 4, 2) := by decide +kernel
theorem dX3_simulate_36 : decode cX3_simulate 36 = .ok (.bipush 40, 2) := by decide +kernel
theorem dX3_simulate_38 : decode cX3_simulate 38 = .ok (.istore 6, 2) := by decide +kernel
theorem dX3_simulate_40 : decode cX3_simulate 40 = .ok (.iconst 0, 1) := by decide +kernel
theorem dX3_simulate_41 : decode cX3_simulate 41 = .ok (.istore 7, 2) := by decide +kernel
theorem dX3_simulate_43 : decode cX3_simulate 43 = .ok (.iload 7, 2) := by decide +kernel
theorem dX3_simulate_45 : decode cX3_simulate 45 = .ok (.iload_n 3, 1) := by decide +kernel
theorem dX3_simulate_46 : decode cX3_simulate 46 = .ok (.if_icmp .ge 87, 3) := by decide +kernel
theorem dX3_simulate_49 : decode cX3_simulate 49 = .ok (.lload 4, 2) := by decide +kernel
theorem dX3_simulate_51 : decode cX3_simulate 51 = .ok (.ldc2_w 273, 3) := by decide +kernel
theorem dX3_simulate_54 : decode cX3_simulate 54 = .ok (.lmul, 1) := by decide +kernel
theorem dX3_simulate_55 : decode cX3_simulate 55 = .ok (.ldc2_w 275, 3) := by decide +kernel
theorem dX3_simulate_58 : decode cX3_simulate 58 = .ok (.ladd, 1) := by decide +kernel
theorem dX3_simulate_59 : decode cX3_simulate 59 = .ok (.lstore 4, 2) := by decide +kernel
theorem dX3_simulate_61 : decode cX3_simulate 61 = .ok (.lload 4, 2) := by decide +kernel
theorem dX3_simulate_63 : decode cX3_simulate 63 = .ok (.bipush 33, 2) := by decide +kernel
theorem dX3_simulate_65 : decode cX3_simulate 65 = .ok (.lushr, 1) := by decide +kernel
theorem dX3_simulate_66 : decode cX3_simulate 66 = .ok (.l2i, 1) := by decide +kernel
theorem dX3_simulate_67 : decode cX3_simulate 67 = .ok (.istore 8, 2) := by decide +kernel
theorem dX3_simulate_69 : decode cX3_simulate 69 = .ok (.iload 8, 2) := by decide +kernel
theorem dX3_simulate_71 : decode cX3_simulate 71 = .ok (.bipush 8, 2) := by decide +kernel
theorem dX3_simulate_73 : decode cX3_simulate 73 = .ok (.idiv, 1) := by decide +kernel
theorem dX3_simulate_74 : decode cX3_simulate 74 = .ok (.iconst 2, 1) := by decide +kernel
theorem dX3_simulate_75 : decode cX3_simulate 75 = .ok (.irem, 1) := by decide +kernel
theorem dX3_simulate_76 : decode cX3_simulate 76 = .ok (.ifCond .ne 15, 3) := by decide +kernel
theorem dX3_simulate_79 : decode cX3_simulate 79 = .ok (.iconst 1, 1) := by decide +kernel
theorem dX3_simulate_80 : decode cX3_simulate 80 = .ok (.iload 8, 2) := by decide +kernel
theorem dX3_simulate_82 : decode cX3_simulate 82 = .ok (.bipush 16, 2) := by decide +kernel
theorem dX3_simulate_84 : decode cX3_simulate 84 = .ok (.idiv, 1) := by decide +kernel
theorem dX3_simulate_85 : decode cX3_simulate 85 = .ok (.bipush 99, 2) := by decide +kernel
theorem dX3_simulate_87 : decode cX3_simulate 87 = .ok (.irem, 1) := by decide +kernel
theorem dX3_simulate_88 : decode cX3_simulate 88 = .ok (.iadd, 1) := by decide +kernel
theorem dX3_simulate_89 : decode cX3_simulate 89 = .ok (.istore 6, 2) := by decide +kernel
theorem dX3_simulate_91 : decode cX3_simulate 91 = .ok (.aload_n 0, 1) := by decide +kernel
theorem dX3_simulate_92 : decode cX3_simulate 92 = .ok (.getfield 23, 3) := by decide +kernel
theorem dX3_simulate_95 : decode cX3_simulate 95 = .ok (.getfield 79, 3) := by decide +kernel
theorem dX3_simulate_98 : decode cX3_simulate 98 = .ok (.bipush 30, 2) := by decide +kernel
theorem dX3_simulate_100 : decode cX3_simulate 100 = .ok (.if_icmp .lt 11, 3) := by decide +kernel
theorem dX3_simulate_103 : decode cX3_simulate 103 = .ok (.aload_n 0, 1) := by decide +kernel
theorem dX3_simulate_104 : decode cX3_simulate 104 = .ok (.getfield 23, 3) := by decide +kernel
theorem dX3_simulate_107 : decode cX3_simulate 107 = .ok (.invokevirtual 223, 3) := by decide +kernel
theorem dX3_simulate_110 : decode cX3_simulate 110 = .ok (.pop, 1) := by decide +kernel
theorem dX3_simulate_111 : decode cX3_simulate 111 = .ok (.aload_n 0, 1) := by decide +kernel
theorem dX3_simulate_112 : decode cX3_simulate 112 = .ok (.getfield 23, 3) := by decide +kernel
theorem dX3_simulate_115 : decode cX3_simulate 115 = .ok (.aload_n 0, 1) := by decide +kernel
theorem dX3_simulate_116 : decode cX3_simulate 116 = .ok (.iload 8, 2) := by decide +kernel
theorem dX3_simulate_118 : decode cX3_simulate 118 = .ok (.invokevirtual 277, 3) := by decide +kernel
theorem dX3_simulate_121 : decode cX3_simulate 121 = .ok (.iload 6, 2) := by decide +kernel
theorem dX3_simulate_123 : decode cX3_simulate 123 = .ok (.invokevirtual 192, 3) := by decide +kernel
theorem dX3_simulate_126 : decode cX3_simulate 126 = .ok (.pop, 1) := by decide +kernel
theorem dX3_simulate_127 : decode cX3_simulate 127 = .ok (.iinc 7 1, 3) := by decide +kernel
theorem dX3_simulate_130 : decode cX3_simulate 130 = .ok (.goto (-87), 3) := by decide +kernel
theorem dX3_simulate_133 : decode cX3_simulate 133 = .ok (.aload_n 0, 1) := by decide +kernel
theorem dX3_simulate_134 : decode cX3_simulate 134 = .ok (.getfield 29, 3) := by decide +kernel
theorem dX3_simulate_137 : decode cX3_simulate 137 = .ok (.aload_n 0, 1) := by decide +kernel
theorem dX3_simulate_138 : decode cX3_simulate 138 = .ok (.getfield 23, 3) := by decide +kernel
theorem dX3_simulate_141 : decode cX3_simulate 141 = .ok (.invokevirtual 75, 3) := by decide +kernel
theorem dX3_simulate_144 : decode cX3_simulate 144 = .ok (.sipush 1000, 3) := by decide +kernel
theorem dX3_simulate_147 : decode cX3_simulate 147 = .ok (.aload_n 0, 1) := by decide +kernel
theorem dX3_simulate_148 : decode cX3_simulate 148 = .ok (.getfield 29, 3) := by decide +kernel
theorem dX3_simulate_151 : decode cX3_simulate 151 = .ok (.getfield 85, 3) := by decide +kernel
theorem dX3_simulate_154 : decode cX3_simulate 154 = .ok (.imul, 1) := by decide +kernel
theorem dX3_simulate_155 : decode cX3_simulate 155 = .ok (.aload_n 0, 1) := by decide +kernel
theorem dX3_simulate_156 : decode cX3_simulate 156 = .ok (.getfield 29, 3) := by decide +kernel
theorem dX3_simulate_159 : decode cX3_simulate 159 = .ok (.getfield 88, 3) := by decide +kernel
theorem dX3_simulate_162 : decode cX3_simulate 162 = .ok (.sipush 999, 3) := by decide +kernel
theorem dX3_simulate_165 : decode cX3_simulate 165 = .ok (.invokestatic 250, 3) := by decide +kernel
theorem dX3_simulate_168 : decode cX3_simulate 168 = .ok (.iadd, 1) := by decide +kernel
theorem dX3_simulate_169 : decode cX3_simulate 169 = .ok (.ireturn, 1) := by decide +kernel
theorem dX3_save_0 : decode cX3_save 0 = .ok (.iload_n 1, 1) := by decide +kernel
theorem dX3_save_1 : decode cX3_save 1 = .ok (.invokestatic 280, 3) := by decide +kernel
theorem dX3_save_4 : decode cX3_save 4 = .ok (.aload_n 0, 1) := by decide +kernel
theorem dX3_save_5 : decode cX3_save 5 = .ok (.getfield 19, 3) := by decide +kernel
theorem dX3_save_8 : decode cX3_save 8 = .ok (.aload_n 0, 1) := by decide +kernel
theorem dX3_save_9 : decode cX3_save 9 = .ok (.getfield 37, 3) := by decide +kernel
theorem dX3_save_12 : decode cX3_save 12 = .ok (.iload_n 1, 1) := by decide +kernel
theorem dX3_save_13 : decode cX3_save 13 = .ok (.aaload, 1) := by decide +kernel
theorem dX3_save_14 : decode cX3_save 14 = .ok (.invokestatic 235, 3) := by decide +kernel
theorem dX3_save_17 : decode cX3_save 17 = .ok (.aload_n 0, 1) := by decide +kernel
theorem dX3_save_18 : decode cX3_save 18 = .ok (.getfield 40, 3) := by decide +kernel
theorem dX3_save_21 : decode cX3_save 21 = .ok (.iload_n 1, 1) := by decide +kernel
theorem dX3_save_22 : decode cX3_save 22 = .ok (.iconst 1, 1) := by decide +kernel
theorem dX3_save_23 : decode cX3_save 23 = .ok (.bastore, 1) := by decide +kernel
theorem dX3_save_24 : decode cX3_save 24 = .ok (.aload_n 0, 1) := by decide +kernel
theorem dX3_save_25 : decode cX3_save 25 = .ok (.getfield 19, 3) := by decide +kernel
theorem dX3_save_28 : decode cX3_save 28 = .ok (.getfield 79, 3) := by decide +kernel
theorem dX3_save_31 : decode cX3_save 31 = .ok (.ireturn, 1) := by decide +kernel
theorem dX3_restore_0 : decode cX3_restore 0 = .ok (.iload_n 1, 1) := by decide +kernel
theorem dX3_restore_1 : decode cX3_restore 1 = .ok (.invokestatic 280, 3) := by decide +kernel
theorem dX3_restore_4 : decode cX3_restore 4 = .ok (.aload_n 0, 1) := by decide +kernel
theorem dX3_restore_5 : decode cX3_restore 5 = .ok (.getfield 40, 3) := by decide +kernel
theorem dX3_restore_8 : decode cX3_restore 8 = .ok (.iload_n 1, 1) := by decide +kernel
theorem dX3_restore_9 : decode cX3_restore 9 = .ok (.baload, 1) := by decide +kernel
theorem dX3_restore_10 : decode cX3_restore 10 = .ok (.ifCond .ne 14, 3) := by decide +kernel
theorem dX3_restore_13 : decode cX3_restore 13 = .ok (.new 55, 3) := by decide +kernel
theorem dX3_restore_16 : decode cX3_restore 16 = .ok (.dup, 1) := by decide +kernel
theorem dX3_restore_17 : decode cX3_restore 17 = .ok (.ldc_w 283, 3) := by decide +kernel
theorem dX3_restore_20 : decode cX3_restore 20 = .ok (.invokespecial 59, 3) := by decide +kernel
theorem dX3_restore_23 : decode cX3_restore 23 = .ok (.athrow, 1) := by decide +kernel
theorem dX3_restore_24 : decode cX3_restore 24 = .ok (.aload_n 0, 1) := by decide +kernel
theorem dX3_restore_25 : decode cX3_restore 25 = .ok (.getfield 37, 3) := by decide +kernel
theorem dX3_restore_28 : decode cX3_restore 28 = .ok (.iload_n 1, 1) := by decide +kernel
theorem dX3_restore_29 : decode cX3_restore 29 = .ok (.aaload, 1) := by decide +kernel
theorem dX3_restore_30 : decode cX3_restore 30 = .ok (.aload_n 0, 1) := by decide +kernel
theorem dX3_restore_31 : decode cX3_restore 31 = .ok (.getfield 19, 3) := by decide +kernel
theorem dX3_restore_34 : decode cX3_restore 34 = .ok (.invokestatic 235, 3) := by decide +kernel
theorem dX3_restore_37 : decode cX3_restore 37 = .ok (.aload_n 0, 1) := by decide +kernel
theorem dX3_restore_38 : decode cX3_restore 38 = .ok (.iconst 0, 1) := by decide +kernel
theorem dX3_restore_39 : decode cX3_restore 39 = .ok (.putfield 227, 3) := by decide +kernel
theorem dX3_restore_42 : decode cX3_restore 42 = .ok (.aload_n 0, 1) := by decide +kernel
theorem dX3_restore_43 : decode cX3_restore 43 = .ok (.getfield 19, 3) := by decide +kernel
theorem dX3_restore_46 : decode cX3_restore 46 = .ok (.getfield 79, 3) := by decide +kernel
theorem dX3_restore_49 : decode cX3_restore 49 = .ok (.ireturn, 1) := by decide +kernel
theorem dX3_remember_0 : decode cX3_remember 0 = .ok (.aload_n 0, 1) := by decide +kernel
theorem dX3_remember_1 : decode cX3_remember 1 = .ok (.getfield 19, 3) := by decide +kernel
theorem dX3_remember_4 : decode cX3_remember 4 = .ok (.aload_n 0, 1) := by decide +kernel
theorem dX3_remember_5 : decode cX3_remember 5 = .ok (.getfield 33, 3) := by decide +kernel
theorem dX3_remember_8 : decode cX3_remember 8 = .ok (.aload_n 0, 1) := by decide +kernel
theorem dX3_remember_9 : decode cX3_remember 9 = .ok (.getfield 232, 3) := by decide +kernel
theorem dX3_remember_12 : decode cX3_remember 12 = .ok (.aaload, 1) := by decide +kernel
theorem dX3_remember_13 : decode cX3_remember 13 = .ok (.invokestatic 235, 3) := by decide +kernel
theorem dX3_remember_16 : decode cX3_remember 16 = .ok (.aload_n 0, 1) := by decide +kernel
theorem dX3_remember_17 : decode cX3_remember 17 = .ok (.aload_n 0, 1) := by decide +kernel
theorem dX3_remember_18 : decode cX3_remember 18 = .ok (.getfield 232, 3) := by decide +kernel
theorem dX3_remember_21 : decode cX3_remember 21 = .ok (.iconst 1, 1) := by decide +kernel
theorem dX3_remember_22 : decode cX3_remember 22 = .ok (.iadd, 1) := by decide +kernel
theorem dX3_remember_23 : decode cX3_remember 23 = .ok (.bipush 14, 2) := by decide +kernel
theorem dX3_remember_25 : decode cX3_remember 25 = .ok (.irem, 1) := by decide +kernel
theorem dX3_remember_26 : decode cX3_remember 26 = .ok (.putfield 232, 3) := by decide +kernel
theorem dX3_remember_29 : decode cX3_remember 29 = .ok (.aload_n 0, 1) := by decide +kernel
theorem dX3_remember_30 : decode cX3_remember 30 = .ok (.aload_n 0, 1) := by decide +kernel
theorem dX3_remember_31 : decode cX3_remember 31 = .ok (.getfield 227, 3) := by decide +kernel
theorem dX3_remember_34 : decode cX3_remember 34 = .ok (.iconst 1, 1) := by decide +kernel
theorem dX3_remember_35 : decode cX3_remember 35 = .ok (.iadd, 1) := by decide +kernel
theorem dX3_remember_36 : decode cX3_remember 36 = .ok (.bipush 14, 2) := by decide +kernel
theorem dX3_remember_38 : decode cX3_remember 38 = .ok (.invokestatic 250, 3) := by decide +kernel
theorem dX3_remember_41 : decode cX3_remember 41 = .ok (.putfield 227, 3) := by decide +kernel
theorem dX3_remember_44 : decode cX3_remember 44 = .ok (.return_, 1) := by decide +kernel
theorem dX3_demandAxle_0 : decode cX3_demandAxle 0 = .ok (.aload_n 0, 1) := by decide +kernel
theorem dX3_demandAxle_1 : decode cX3_demandAxle 1 = .ok (.getfield 19, 3) := by decide +kernel
theorem dX3_demandAxle_4 : decode cX3_demandAxle 4 = .ok (.iload_n 1, 1) := by decide +kernel
theorem dX3_demandAxle_5 : decode cX3_demandAxle 5 = .ok (.invokevirtual 285, 3) := by decide +kernel
theorem dX3_demandAxle_8 : decode cX3_demandAxle 8 = .ok (.ifCond .ne 14, 3) := by decide +kernel
theorem dX3_demandAxle_11 : decode cX3_demandAxle 11 = .ok (.new 121, 3) := by decide +kernel
theorem dX3_demandAxle_14 : decode cX3_demandAxle 14 = .ok (.dup, 1) := by decide +kernel
theorem dX3_demandAxle_15 : decode cX3_demandAxle 15 = .ok (.ldc_w 288, 3) := by decide +kernel
theorem dX3_demandAxle_18 : decode cX3_demandAxle 18 = .ok (.invokespecial 125, 3) := by decide +kernel
theorem dX3_demandAxle_21 : decode cX3_demandAxle 21 = .ok (.athrow, 1) := by decide +kernel
theorem dX3_demandAxle_22 : decode cX3_demandAxle 22 = .ok (.return_, 1) := by decide +kernel
theorem dX3_demandTrain_0 : decode cX3_demandTrain 0 = .ok (.iload_n 1, 1) := by decide +kernel
theorem dX3_demandTrain_1 : decode cX3_demandTrain 1 = .ok (.ifCond .lt 14, 3) := by decide +kernel
theorem dX3_demandTrain_4 : decode cX3_demandTrain 4 = .ok (.iload_n 1, 1) := by decide +kernel
theorem dX3_demandTrain_5 : decode cX3_demandTrain 5 = .ok (.aload_n 0, 1) := by decide +kernel
theorem dX3_demandTrain_6 : decode cX3_demandTrain 6 = .ok (.getfield 29, 3) := by decide +kernel
theorem dX3_demandTrain_9 : decode cX3_demandTrain 9 = .ok (.getfield 82, 3) := by decide +kernel
theorem dX3_demandTrain_12 : decode cX3_demandTrain 12 = .ok (.if_icmp .lt 14, 3) := by decide +kernel
theorem dX3_demandTrain_15 : decode cX3_demandTrain 15 = .ok (.new 121, 3) := by decide +kernel
theorem dX3_demandTrain_18 : decode cX3_demandTrain 18 = .ok (.dup, 1) := by decide +kernel
theorem dX3_demandTrain_19 : decode cX3_demandTrain 19 = .ok (.ldc_w 290, 3) := by decide +kernel
theorem dX3_demandTrain_22 : decode cX3_demandTrain 22 = .ok (.invokespecial 125, 3) := by decide +kernel
theorem dX3_demandTrain_25 : decode cX3_demandTrain 25 = .ok (.athrow, 1) := by decide +kernel
theorem dX3_demandTrain_26 : decode cX3_demandTrain 26 = .ok (.return_, 1) := by decide +kernel
theorem dX3_demandSlot_0 : decode cX3_demandSlot 0 = .ok (.iload_n 0, 1) := by decide +kernel
theorem dX3_demandSlot_1 : decode cX3_demandSlot 1 = .ok (.ifCond .lt 8, 3) := by decide +kernel
theorem dX3_demandSlot_4 : decode cX3_demandSlot 4 = .ok (.iload_n 0, 1) := by decide +kernel
theorem dX3_demandSlot_5 : decode cX3_demandSlot 5 = .ok (.iconst 2, 1) := by decide +kernel
theorem dX3_demandSlot_6 : decode cX3_demandSlot 6 = .ok (.if_icmp .lt 14, 3) := by decide +kernel
theorem dX3_demandSlot_9 : decode cX3_demandSlot 9 = .ok (.new 121, 3) := by decide +kernel
theorem dX3_demandSlot_12 : decode cX3_demandSlot 12 = .ok (.dup, 1) := by decide +kernel
theorem dX3_demandSlot_13 : decode cX3_demandSlot 13 = .ok (.ldc_w 292, 3) := by decide +kernel
theorem dX3_demandSlot_16 : decode cX3_demandSlot 16 = .ok (.invokespecial 125, 3) := by decide +kernel
theorem dX3_demandSlot_19 : decode cX3_demandSlot 19 = .ok (.athrow, 1) := by decide +kernel
theorem dX3_demandSlot_20 : decode cX3_demandSlot 20 = .ok (.return_, 1) := by decide +kernel
theorem dX3_billOrNone_0 : decode cX3_billOrNone 0 = .ok (.aload_n 0, 1) := by decide +kernel
theorem dX3_billOrNone_1 : decode cX3_billOrNone 1 = .ok (.getfield 19, 3) := by decide +kernel
theorem dX3_billOrNone_4 : decode cX3_billOrNone 4 = .ok (.getfield 210, 3) := by decide +kernel
theorem dX3_billOrNone_7 : decode cX3_billOrNone 7 = .ok (.iload_n 1, 1) := by decide +kernel
theorem dX3_billOrNone_8 : decode cX3_billOrNone 8 = .ok (.invokestatic 108, 3) := by decide +kernel
theorem dX3_billOrNone_11 : decode cX3_billOrNone 11 = .ok (.istore_n 2, 1) := by decide +kernel
theorem dX3_billOrNone_12 : decode cX3_billOrNone 12 = .ok (.iload_n 2, 1) := by decide +kernel
theorem dX3_billOrNone_13 : decode cX3_billOrNone 13 = .ok (.ifCond .ne 7, 3) := by decide +kernel
theorem dX3_billOrNone_16 : decode cX3_billOrNone 16 = .ok (.iconst (-1), 1) := by decide +kernel
theorem dX3_billOrNone_17 : decode cX3_billOrNone 17 = .ok (.goto 4, 3) := by decide +kernel
theorem dX3_billOrNone_20 : decode cX3_billOrNone 20 = .ok (.iload_n 2, 1) := by decide +kernel
theorem dX3_billOrNone_21 : decode cX3_billOrNone 21 = .ok (.ireturn, 1) := by decide +kernel
theorem dX3_countBills_0 : decode cX3_countBills 0 = .ok (.iconst 0, 1) := by decide +kernel
theorem dX3_countBills_1 : decode cX3_countBills 1 = .ok (.istore_n 2, 1) := by decide +kernel
theorem dX3_countBills_2 : decode cX3_countBills 2 = .ok (.iconst 0, 1) := by decide +kernel
theorem dX3_countBills_3 : decode cX3_countBills 3 = .ok (.istore_n 3, 1) := by decide +kernel
theorem dX3_countBills_4 : decode cX3_countBills 4 = .ok (.iload_n 3, 1) := by decide +kernel
theorem dX3_countBills_5 : decode cX3_countBills 5 = .ok (.aload_n 0, 1) := by decide +kernel
theorem dX3_countBills_6 : decode cX3_countBills 6 = .ok (.getfield 29, 3) := by decide +kernel
theorem dX3_countBills_9 : decode cX3_countBills 9 = .ok (.getfield 82, 3) := by decide +kernel
theorem dX3_countBills_12 : decode cX3_countBills 12 = .ok (.if_icmp .ge 51, 3) := by decide +kernel
theorem dX3_countBills_15 : decode cX3_countBills 15 = .ok (.aload_n 0, 1) := by decide +kernel
theorem dX3_countBills_16 : decode cX3_countBills 16 = .ok (.getfield 19, 3) := by decide +kernel
theorem dX3_countBills_19 : decode cX3_countBills 19 = .ok (.getfield 210, 3) := by decide +kernel
theorem dX3_countBills_22 : decode cX3_countBills 22 = .ok (.iload_n 3, 1) := by decide +kernel
theorem dX3_countBills_23 : decode cX3_countBills 23 = .ok (.invokestatic 108, 3) := by decide +kernel
theorem dX3_countBills_26 : decode cX3_countBills 26 = .ok (.istore 4, 2) := by decide +kernel
theorem dX3_countBills_28 : decode cX3_countBills 28 = .ok (.iload 4, 2) := by decide +kernel
theorem dX3_countBills_30 : decode cX3_countBills 30 = .ok (.ifCond .eq 27, 3) := by decide +kernel
theorem dX3_countBills_33 : decode cX3_countBills 33 = .ok (.iload_n 1, 1) := by decide +kernel
theorem dX3_countBills_34 : decode cX3_countBills 34 = .ok (.ifCond .eq 20, 3) := by decide +kernel
theorem dX3_countBills_37 : decode cX3_countBills 37 = .ok (.iload 4, 2) := by decide +kernel
theorem dX3_countBills_39 : decode cX3_countBills 39 = .ok (.aload_n 0, 1) := by decide +kernel
theorem dX3_countBills_40 : decode cX3_countBills 40 = .ok (.getfield 29, 3) := by decide +kernel
theorem dX3_countBills_43 : decode cX3_countBills 43 = .ok (.aload_n 0, 1) := by decide +kernel
theorem dX3_countBills_44 : decode cX3_countBills 44 = .ok (.getfield 19, 3) := by decide +kernel
theorem dX3_countBills_47 : decode cX3_countBills 47 = .ok (.iload_n 3, 1) := by decide +kernel
theorem dX3_countBills_48 : decode cX3_countBills 48 = .ok (.invokevirtual 156, 3) := by decide +kernel
theorem dX3_countBills_51 : decode cX3_countBills 51 = .ok (.if_icmp .eq 6, 3) := by decide +kernel
theorem dX3_countBills_54 : decode cX3_countBills 54 = .ok (.iinc 2 1, 3) := by decide +kernel
theorem dX3_countBills_57 : decode cX3_countBills 57 = .ok (.iinc 3 1, 3) := by decide +kernel
theorem dX3_countBills_60 : decode cX3_countBills 60 = .ok (.goto (-56), 3) := by decide +kernel
theorem dX3_countBills_63 : decode cX3_countBills 63 = .ok (.iload_n 2, 1) := by decide +kernel
theorem dX3_countBills_64 : decode cX3_countBills 64 = .ok (.ireturn, 1) := by decide +kernel
theorem dX3_commandSucceeds_0 : decode cX3_commandSucceeds 0 = .ok (.iload_n 1, 1) := by decide +kernel
theorem dX3_commandSucceeds_1 : decode cX3_commandSucceeds 1 = .ok (.bipush 100, 2) := by decide +kernel
theorem dX3_commandSucceeds_3 : decode cX3_commandSucceeds 3 = .ok (.idiv, 1) := by decide +kernel
theorem dX3_commandSucceeds_4 : decode cX3_commandSucceeds 4 = .ok (.bipush 100, 2) := by decide +kernel
theorem dX3_commandSucceeds_6 : decode cX3_commandSucceeds 6 = .ok (.irem, 1) := by decide +kernel
theorem dX3_commandSucceeds_7 : decode cX3_commandSucceeds 7 = .ok (.istore_n 2, 1) := by decide +kernel
theorem dX3_commandSucceeds_8 : decode cX3_commandSucceeds 8 = .ok (.iload_n 1, 1) := by decide +kernel
theorem dX3_commandSucceeds_9 : decode cX3_commandSucceeds 9 = .ok (.bipush 100, 2) := by decide +kernel
theorem dX3_commandSucceeds_11 : decode cX3_commandSucceeds 11 = .ok (.irem, 1) := by decide +kernel
theorem dX3_commandSucceeds_12 : decode cX3_commandSucceeds 12 = .ok (.istore_n 3, 1) := by decide +kernel
theorem dX3_commandSucceeds_13 : decode cX3_commandSucceeds 13 = .ok (.iload_n 1, 1) := by decide +kernel
theorem dX3_commandSucceeds_14 : decode cX3_commandSucceeds 14 = .ok (.sipush 10000, 3) := by decide +kernel
theorem dX3_commandSucceeds_17 : decode cX3_commandSucceeds 17 = .ok (.idiv, 1) := by decide +kernel
theorem dX3_commandSucceeds_18 : decode cX3_commandSucceeds 18 = .ok (.tableswitch 133 1 5 #[34, 44, 65, 75, 109], 34) := by decide +kernel
theorem dX3_commandSucceeds_52 : decode cX3_commandSucceeds 52 = .ok (.aload_n 0, 1) := by decide +kernel
theorem dX3_commandSucceeds_53 : decode cX3_commandSucceeds 53 = .ok (.getfield 23, 3) := by decide +kernel
theorem dX3_commandSucceeds_56 : decode cX3_commandSucceeds 56 = .ok (.iload_n 2, 1) := by decide +kernel
theorem dX3_commandSucceeds_57 : decode cX3_commandSucceeds 57 = .ok (.iload_n 3, 1) := by decide +kernel
theorem dX3_commandSucceeds_58 : decode cX3_commandSucceeds 58 = .ok (.invokevirtual 192, 3) := by decide +kernel
theorem dX3_commandSucceeds_61 : decode cX3_commandSucceeds 61 = .ok (.ireturn, 1) := by decide +kernel
theorem dX3_commandSucceeds_62 : decode cX3_commandSucceeds 62 = .ok (.iload_n 3, 1) := by decide +kernel
theorem dX3_commandSucceeds_63 : decode cX3_commandSucceeds 63 = .ok (.ifCond .ne 18, 3) := by decide +kernel
theorem dX3_commandSucceeds_66 : decode cX3_commandSucceeds 66 = .ok (.aload_n 0, 1) := by decide +kernel
theorem dX3_commandSucceeds_67 : decode cX3_commandSucceeds 67 = .ok (.getfield 23, 3) := by decide +kernel
theorem dX3_commandSucceeds_70 : decode cX3_commandSucceeds 70 = .ok (.iload_n 2, 1) := by decide +kernel
theorem dX3_commandSucceeds_71 : decode cX3_commandSucceeds 71 = .ok (.invokevirtual 200, 3) := by decide +kernel
theorem dX3_commandSucceeds_74 : decode cX3_commandSucceeds 74 = .ok (.ifCond .eq 7, 3) := by decide +kernel
theorem dX3_commandSucceeds_77 : decode cX3_commandSucceeds 77 = .ok (.iconst 1, 1) := by decide +kernel
theorem dX3_commandSucceeds_78 : decode cX3_commandSucceeds 78 = .ok (.goto 4, 3) := by decide +kernel
theorem dX3_commandSucceeds_81 : decode cX3_commandSucceeds 81 = .ok (.iconst 0, 1) := by decide +kernel
theorem dX3_commandSucceeds_82 : decode cX3_commandSucceeds 82 = .ok (.ireturn, 1) := by decide +kernel
theorem dX3_commandSucceeds_83 : decode cX3_commandSucceeds 83 = .ok (.aload_n 0, 1) := by decide +kernel
theorem dX3_commandSucceeds_84 : decode cX3_commandSucceeds 84 = .ok (.getfield 23, 3) := by decide +kernel
theorem dX3_commandSucceeds_87 : decode cX3_commandSucceeds 87 = .ok (.iload_n 2, 1) := by decide +kernel
theorem dX3_commandSucceeds_88 : decode cX3_commandSucceeds 88 = .ok (.iload_n 3, 1) := by decide +kernel
theorem dX3_commandSucceeds_89 : decode cX3_commandSucceeds 89 = .ok (.invokevirtual 205, 3) := by decide +kernel
theorem dX3_commandSucceeds_92 : decode cX3_commandSucceeds 92 = .ok (.ireturn, 1) := by decide +kernel
theorem dX3_commandSucceeds_93 : decode cX3_commandSucceeds 93 = .ok (.iload_n 3, 1) := by decide +kernel
theorem dX3_commandSucceeds_94 : decode cX3_commandSucceeds 94 = .ok (.bipush 10, 2) := by decide +kernel
theorem dX3_commandSucceeds_96 : decode cX3_commandSucceeds 96 = .ok (.irem, 1) := by decide +kernel
theorem dX3_commandSucceeds_97 : decode cX3_commandSucceeds 97 = .ok (.ifCond .ne 28, 3) := by decide +kernel
theorem dX3_commandSucceeds_100 : decode cX3_commandSucceeds 100 = .ok (.aload_n 0, 1) := by decide +kernel
theorem dX3_commandSucceeds_101 : decode cX3_commandSucceeds 101 = .ok (.getfield 23, 3) := by decide +kernel
theorem dX3_commandSucceeds_104 : decode cX3_commandSucceeds 104 = .ok (.iload_n 2, 1) := by decide +kernel
theorem dX3_commandSucceeds_105 : decode cX3_commandSucceeds 105 = .ok (.bipush 10, 2) := by decide +kernel
theorem dX3_commandSucceeds_107 : decode cX3_commandSucceeds 107 = .ok (.idiv, 1) := by decide +kernel
theorem dX3_commandSucceeds_108 : decode cX3_commandSucceeds 108 = .ok (.iload_n 1, 1) := by decide +kernel
theorem dX3_commandSucceeds_109 : decode cX3_commandSucceeds 109 = .ok (.bipush 10, 2) := by decide +kernel
theorem dX3_commandSucceeds_111 : decode cX3_commandSucceeds 111 = .ok (.idiv, 1) := by decide +kernel
theorem dX3_commandSucceeds_112 : decode cX3_commandSucceeds 112 = .ok (.bipush 100, 2) := by decide +kernel
theorem dX3_commandSucceeds_114 : decode cX3_commandSucceeds 114 = .ok (.irem, 1) := by decide +kernel
theorem dX3_commandSucceeds_115 : decode cX3_commandSucceeds 115 = .ok (.invokevirtual 218, 3) := by decide +kernel
theorem dX3_commandSucceeds_118 : decode cX3_commandSucceeds 118 = .ok (.ifCond .eq 7, 3) := by decide +kernel
theorem dX3_commandSucceeds_121 : decode cX3_commandSucceeds 121 = .ok (.iconst 1, 1) := by decide +kernel
theorem dX3_commandSucceeds_122 : decode cX3_commandSucceeds 122 = .ok (.goto 4, 3) := by decide +kernel
theorem dX3_commandSucceeds_125 : decode cX3_commandSucceeds 125 = .ok (.iconst 0, 1) := by decide +kernel
theorem dX3_commandSucceeds_126 : decode cX3_commandSucceeds 126 = .ok (.ireturn, 1) := by decide +kernel
theorem dX3_commandSucceeds_127 : decode cX3_commandSucceeds 127 = .ok (.iload_n 2, 1) := by decide +kernel
theorem dX3_commandSucceeds_128 : decode cX3_commandSucceeds 128 = .ok (.ifCond .ne 21, 3) := by decide +kernel
theorem dX3_commandSucceeds_131 : decode cX3_commandSucceeds 131 = .ok (.iload_n 3, 1) := by decide +kernel
theorem dX3_commandSucceeds_132 : decode cX3_commandSucceeds 132 = .ok (.ifCond .ne 17, 3) := by decide +kernel
theorem dX3_commandSucceeds_135 : decode cX3_commandSucceeds 135 = .ok (.aload_n 0, 1) := by decide +kernel
theorem dX3_commandSucceeds_136 : decode cX3_commandSucceeds 136 = .ok (.getfield 23, 3) := by decide +kernel
theorem dX3_commandSucceeds_139 : decode cX3_commandSucceeds 139 = .ok (.invokevirtual 223, 3) := by decide +kernel
theorem dX3_commandSucceeds_142 : decode cX3_commandSucceeds 142 = .ok (.ifCond .eq 7, 3) := by decide +kernel
theorem dX3_commandSucceeds_145 : decode cX3_commandSucceeds 145 = .ok (.iconst 1, 1) := by decide +kernel
theorem dX3_commandSucceeds_146 : decode cX3_commandSucceeds 146 = .ok (.goto 4, 3) := by decide +kernel
theorem dX3_commandSucceeds_149 : decode cX3_commandSucceeds 149 = .ok (.iconst 0, 1) := by decide +kernel
theorem dX3_commandSucceeds_150 : decode cX3_commandSucceeds 150 = .ok (.ireturn, 1) := by decide +kernel
theorem dX3_commandSucceeds_151 : decode cX3_commandSucceeds 151 = .ok (.aload_n 0, 1) := by decide +kernel
theorem dX3_commandSucceeds_152 : decode cX3_commandSucceeds 152 = .ok (.iload_n 1, 1) := by decide +kernel
theorem dX3_commandSucceeds_153 : decode cX3_commandSucceeds 153 = .ok (.invokevirtual 294, 3) := by decide +kernel
theorem dX3_commandSucceeds_156 : decode cX3_commandSucceeds 156 = .ok (.ireturn, 1) := by decide +kernel
theorem dX3_conditionHolds_0 : decode cX3_conditionHolds 0 = .ok (.iload_n 1, 1) := by decide +kernel
theorem dX3_conditionHolds_1 : decode cX3_conditionHolds 1 = .ok (.bipush 100, 2) := by decide +kernel
theorem dX3_conditionHolds_3 : decode cX3_conditionHolds 3 = .ok (.idiv, 1) := by decide +kernel
theorem dX3_conditionHolds_4 : decode cX3_conditionHolds 4 = .ok (.bipush 100, 2) := by decide +kernel
theorem dX3_conditionHolds_6 : decode cX3_conditionHolds 6 = .ok (.irem, 1) := by decide +kernel
theorem dX3_conditionHolds_7 : decode cX3_conditionHolds 7 = .ok (.istore_n 2, 1) := by decide +kernel
theorem dX3_conditionHolds_8 : decode cX3_conditionHolds 8 = .ok (.iload_n 1, 1) := by decide +kernel
theorem dX3_conditionHolds_9 : decode cX3_conditionHolds 9 = .ok (.bipush 100, 2) := by decide +kernel
theorem dX3_conditionHolds_11 : decode cX3_conditionHolds 11 = .ok (.irem, 1) := by decide +kernel
theorem dX3_conditionHolds_12 : decode cX3_conditionHolds 12 = .ok (.istore_n 3, 1) := by decide +kernel
theorem dX3_conditionHolds_13 : decode cX3_conditionHolds 13 = .ok (.aload_n 0, 1) := by decide +kernel
theorem dX3_conditionHolds_14 : decode cX3_conditionHolds 14 = .ok (.getfield 29, 3) := by decide +kernel
theorem dX3_conditionHolds_17 : decode cX3_conditionHolds 17 = .ok (.aload_n 0, 1) := by decide +kernel
theorem dX3_conditionHolds_18 : decode cX3_conditionHolds 18 = .ok (.getfield 23, 3) := by decide +kernel
theorem dX3_conditionHolds_21 : decode cX3_conditionHolds 21 = .ok (.invokevirtual 75, 3) := by decide +kernel
theorem dX3_conditionHolds_24 : decode cX3_conditionHolds 24 = .ok (.iload_n 1, 1) := by decide +kernel
theorem dX3_conditionHolds_25 : decode cX3_conditionHolds 25 = .ok (.sipush 10000, 3) := by decide +kernel
theorem dX3_conditionHolds_28 : decode cX3_conditionHolds 28 = .ok (.idiv, 1) := by decide +kernel
theorem dX3_conditionHolds_29 : decode cX3_conditionHolds 29 = .ok (.tableswitch 145 6 9 #[31, 52, 83, 104], 31) := by decide +kernel
theorem dX3_conditionHolds_60 : decode cX3_conditionHolds 60 = .ok (.iload_n 2, 1) := by decide +kernel
theorem dX3_conditionHolds_61 : decode cX3_conditionHolds 61 = .ok (.ifCond .ne 18, 3) := by decide +kernel
theorem dX3_conditionHolds_64 : decode cX3_conditionHolds 64 = .ok (.aload_n 0, 1) := by decide +kernel
theorem dX3_conditionHolds_65 : decode cX3_conditionHolds 65 = .ok (.getfield 29, 3) := by decide +kernel
theorem dX3_conditionHolds_68 : decode cX3_conditionHolds 68 = .ok (.getfield 85, 3) := by decide +kernel
theorem dX3_conditionHolds_71 : decode cX3_conditionHolds 71 = .ok (.iload_n 3, 1) := by decide +kernel
theorem dX3_conditionHolds_72 : decode cX3_conditionHolds 72 = .ok (.if_icmp .lt 7, 3) := by decide +kernel
theorem dX3_conditionHolds_75 : decode cX3_conditionHolds 75 = .ok (.iconst 1, 1) := by decide +kernel
theorem dX3_conditionHolds_76 : decode cX3_conditionHolds 76 = .ok (.goto 4, 3) := by decide +kernel
theorem dX3_conditionHolds_79 : decode cX3_conditionHolds 79 = .ok (.iconst 0, 1) := by decide +kernel
theorem dX3_conditionHolds_80 : decode cX3_conditionHolds 80 = .ok (.ireturn, 1) := by decide +kernel
theorem dX3_conditionHolds_81 : decode cX3_conditionHolds 81 = .ok (.iload_n 2, 1) := by decide +kernel
theorem dX3_conditionHolds_82 : decode cX3_conditionHolds 82 = .ok (.ifCond .ne 28, 3) := by decide +kernel
theorem dX3_conditionHolds_85 : decode cX3_conditionHolds 85 = .ok (.aload_n 0, 1) := by decide +kernel
theorem dX3_conditionHolds_86 : decode cX3_conditionHolds 86 = .ok (.getfield 23, 3) := by decide +kernel
theorem dX3_conditionHolds_89 : decode cX3_conditionHolds 89 = .ok (.getfield 79, 3) := by decide +kernel
theorem dX3_conditionHolds_92 : decode cX3_conditionHolds 92 = .ok (.iconst 2, 1) := by decide +kernel
theorem dX3_conditionHolds_93 : decode cX3_conditionHolds 93 = .ok (.aload_n 0, 1) := by decide +kernel
theorem dX3_conditionHolds_94 : decode cX3_conditionHolds 94 = .ok (.getfield 29, 3) := by decide +kernel
theorem dX3_conditionHolds_97 : decode cX3_conditionHolds 97 = .ok (.getfield 85, 3) := by decide +kernel
theorem dX3_conditionHolds_100 : decode cX3_conditionHolds 100 = .ok (.imul, 1) := by decide +kernel
theorem dX3_conditionHolds_101 : decode cX3_conditionHolds 101 = .ok (.isub, 1) := by decide +kernel
theorem dX3_conditionHolds_102 : decode cX3_conditionHolds 102 = .ok (.iload_n 3, 1) := by decide +kernel
theorem dX3_conditionHolds_103 : decode cX3_conditionHolds 103 = .ok (.if_icmp .gt 7, 3) := by decide +kernel
theorem dX3_conditionHolds_106 : decode cX3_conditionHolds 106 = .ok (.iconst 1, 1) := by decide +kernel
theorem dX3_conditionHolds_107 : decode cX3_conditionHolds 107 = .ok (.goto 4, 3) := by decide +kernel
theorem dX3_conditionHolds_110 : decode cX3_conditionHolds 110 = .ok (.iconst 0, 1) := by decide +kernel
theorem dX3_conditionHolds_111 : decode cX3_conditionHolds 111 = .ok (.ireturn, 1) := by decide +kernel
theorem dX3_conditionHolds_112 : decode cX3_conditionHolds 112 = .ok (.aload_n 0, 1) := by decide +kernel
theorem dX3_conditionHolds_113 : decode cX3_conditionHolds 113 = .ok (.getfield 29, 3) := by decide +kernel
theorem dX3_conditionHolds_116 : decode cX3_conditionHolds 116 = .ok (.getfield 88, 3) := by decide +kernel
theorem dX3_conditionHolds_119 : decode cX3_conditionHolds 119 = .ok (.iload_n 1, 1) := by decide +kernel
theorem dX3_conditionHolds_120 : decode cX3_conditionHolds 120 = .ok (.sipush 10000, 3) := by decide +kernel
theorem dX3_conditionHolds_123 : decode cX3_conditionHolds 123 = .ok (.irem, 1) := by decide +kernel
theorem dX3_conditionHolds_124 : decode cX3_conditionHolds 124 = .ok (.if_icmp .lt 7, 3) := by decide +kernel
theorem dX3_conditionHolds_127 : decode cX3_conditionHolds 127 = .ok (.iconst 1, 1) := by decide +kernel
theorem dX3_conditionHolds_128 : decode cX3_conditionHolds 128 = .ok (.goto 4, 3) := by decide +kernel
theorem dX3_conditionHolds_131 : decode cX3_conditionHolds 131 = .ok (.iconst 0, 1) := by decide +kernel
theorem dX3_conditionHolds_132 : decode cX3_conditionHolds 132 = .ok (.ireturn, 1) := by decide +kernel
theorem dX3_conditionHolds_133 : decode cX3_conditionHolds 133 = .ok (.aload_n 0, 1) := by decide +kernel
theorem dX3_conditionHolds_134 : decode cX3_conditionHolds 134 = .ok (.getfield 23, 3) := by decide +kernel
theorem dX3_conditionHolds_137 : decode cX3_conditionHolds 137 = .ok (.iload_n 2, 1) := by decide +kernel
theorem dX3_conditionHolds_138 : decode cX3_conditionHolds 138 = .ok (.invokevirtual 285, 3) := by decide +kernel
theorem dX3_conditionHolds_141 : decode cX3_conditionHolds 141 = .ok (.ifCond .eq 31, 3) := by decide +kernel
theorem dX3_conditionHolds_144 : decode cX3_conditionHolds 144 = .ok (.iload_n 3, 1) := by decide +kernel
theorem dX3_conditionHolds_145 : decode cX3_conditionHolds 145 = .ok (.aload_n 0, 1) := by decide +kernel
theorem dX3_conditionHolds_146 : decode cX3_conditionHolds 146 = .ok (.getfield 29, 3) := by decide +kernel
theorem dX3_conditionHolds_149 : decode cX3_conditionHolds 149 = .ok (.getfield 118, 3) := by decide +kernel
theorem dX3_conditionHolds_152 : decode cX3_conditionHolds 152 = .ok (.iload_n 2, 1) := by decide +kernel
theorem dX3_conditionHolds_153 : decode cX3_conditionHolds 153 = .ok (.invokestatic 108, 3) := by decide +kernel
theorem dX3_conditionHolds_156 : decode cX3_conditionHolds 156 = .ok (.iconst (-1), 1) := by decide +kernel
theorem dX3_conditionHolds_157 : decode cX3_conditionHolds 157 = .ok (.if_icmp .ne 7, 3) := by decide +kernel
theorem dX3_conditionHolds_160 : decode cX3_conditionHolds 160 = .ok (.iconst 0, 1) := by decide +kernel
theorem dX3_conditionHolds_161 : decode cX3_conditionHolds 161 = .ok (.goto 4, 3) := by decide +kernel
theorem dX3_conditionHolds_164 : decode cX3_conditionHolds 164 = .ok (.iconst 1, 1) := by decide +kernel
theorem dX3_conditionHolds_165 : decode cX3_conditionHolds 165 = .ok (.if_icmp .ne 7, 3) := by decide +kernel
theorem dX3_conditionHolds_168 : decode cX3_conditionHolds 168 = .ok (.iconst 1, 1) := by decide +kernel
theorem dX3_conditionHolds_169 : decode cX3_conditionHolds 169 = .ok (.goto 4, 3) := by decide +kernel
theorem dX3_conditionHolds_172 : decode cX3_conditionHolds 172 = .ok (.iconst 0, 1) := by decide +kernel
theorem dX3_conditionHolds_173 : decode cX3_conditionHolds 173 = .ok (.ireturn, 1) := by decide +kernel
theorem dX3_conditionHolds_174 : decode cX3_conditionHolds 174 = .ok (.iconst 0, 1) := by decide +kernel
theorem dX3_conditionHolds_175 : decode cX3_conditionHolds 175 = .ok (.ireturn, 1) := by decide +kernel
theorem dX3_simulatedPause_0 : decode cX3_simulatedPause 0 = .ok (.iload_n 1, 1) := by decide +kernel
theorem dX3_simulatedPause_1 : decode cX3_simulatedPause 1 = .ok (.bipush 8, 2) := by decide +kernel
theorem dX3_simulatedPause_3 : decode cX3_simulatedPause 3 = .ok (.irem, 1) := by decide +kernel
theorem dX3_simulatedPause_4 : decode cX3_simulatedPause 4 = .ok (.ifCond .ne 14, 3) := by decide +kernel
theorem dX3_simulatedPause_7 : decode cX3_simulatedPause 7 = .ok (.iconst 1, 1) := by decide +kernel
theorem dX3_simulatedPause_8 : decode cX3_simulatedPause 8 = .ok (.iload_n 1, 1) := by decide +kernel
theorem dX3_simulatedPause_9 : decode cX3_simulatedPause 9 = .ok (.sipush 2048, 3) := by decide +kernel
theorem dX3_simulatedPause_12 : decode cX3_simulatedPause 12 = .ok (.idiv, 1) := by decide +kernel
theorem dX3_simulatedPause_13 : decode cX3_simulatedPause 13 = .ok (.bipush 60, 2) := by decide +kernel
theorem dX3_simulatedPause_15 : decode cX3_simulatedPause 15 = .ok (.irem, 1) := by decide +kernel
theorem dX3_simulatedPause_16 : decode cX3_simulatedPause 16 = .ok (.iadd, 1) := by decide +kernel
theorem dX3_simulatedPause_17 : decode cX3_simulatedPause 17 = .ok (.ireturn, 1) := by decide +kernel
theorem dX3_simulatedPause_18 : decode cX3_simulatedPause 18 = .ok (.iload_n 1, 1) := by decide +kernel
theorem dX3_simulatedPause_19 : decode cX3_simulatedPause 19 = .ok (.iconst 2, 1) := by decide +kernel
theorem dX3_simulatedPause_20 : decode cX3_simulatedPause 20 = .ok (.irem, 1) := by decide +kernel
theorem dX3_simulatedPause_21 : decode cX3_simulatedPause 21 = .ok (.ifCond .eq 15, 3) := by decide +kernel
theorem dX3_simulatedPause_24 : decode cX3_simulatedPause 24 = .ok (.aload_n 0, 1) := by decide +kernel
theorem dX3_simulatedPause_25 : decode cX3_simulatedPause 25 = .ok (.getfield 23, 3) := by decide +kernel
theorem dX3_simulatedPause_28 : decode cX3_simulatedPause 28 = .ok (.getfield 176, 3) := by decide +kernel
theorem dX3_simulatedPause_31 : decode cX3_simulatedPause 31 = .ok (.iconst 0, 1) := by decide +kernel
theorem dX3_simulatedPause_32 : decode cX3_simulatedPause 32 = .ok (.invokestatic 108, 3) := by decide +kernel
theorem dX3_simulatedPause_35 : decode cX3_simulatedPause 35 = .ok (.ireturn, 1) := by decide +kernel
theorem dX3_simulatedPause_36 : decode cX3_simulatedPause 36 = .ok (.aload_n 0, 1) := by decide +kernel
theorem dX3_simulatedPause_37 : decode cX3_simulatedPause 37 = .ok (.getfield 23, 3) := by decide +kernel
theorem dX3_simulatedPause_40 : decode cX3_simulatedPause 40 = .ok (.getfield 176, 3) := by decide +kernel
theorem dX3_simulatedPause_43 : decode cX3_simulatedPause 43 = .ok (.iconst 1, 1) := by decide +kernel
theorem dX3_simulatedPause_44 : decode cX3_simulatedPause 44 = .ok (.invokestatic 108, 3) := by decide +kernel
theorem dX3_simulatedPause_47 : decode cX3_simulatedPause 47 = .ok (.iload_n 1, 1) := by decide +kernel
theorem dX3_simulatedPause_48 : decode cX3_simulatedPause 48 = .ok (.sipush 2048, 3) := by decide +kernel
theorem dX3_simulatedPause_51 : decode cX3_simulatedPause 51 = .ok (.idiv, 1) := by decide +kernel
theorem dX3_simulatedPause_52 : decode cX3_simulatedPause 52 = .ok (.iconst 4, 1) := by decide +kernel
theorem dX3_simulatedPause_53 : decode cX3_simulatedPause 53 = .ok (.irem, 1) := by decide +kernel
theorem dX3_simulatedPause_54 : decode cX3_simulatedPause 54 = .ok (.iadd, 1) := by decide +kernel
theorem dX3_simulatedPause_55 : decode cX3_simulatedPause 55 = .ok (.bipush 60, 2) := by decide +kernel
theorem dX3_simulatedPause_57 : decode cX3_simulatedPause 57 = .ok (.invokestatic 250, 3) := by decide +kernel
theorem dX3_simulatedPause_60 : decode cX3_simulatedPause 60 = .ok (.ireturn, 1) := by decide +kernel
theorem dX3_withoutLastGroups_0 : decode cX3_withoutLastGroups 0 = .ok (.lload_n 0, 1) := by decide +kernel
theorem dX3_withoutLastGroups_1 : decode cX3_withoutLastGroups 1 = .ok (.lstore_n 3, 1) := by decide +kernel
theorem dX3_withoutLastGroups_2 : decode cX3_withoutLastGroups 2 = .ok (.iconst 0, 1) := by decide +kernel
theorem dX3_withoutLastGroups_3 : decode cX3_withoutLastGroups 3 = .ok (.istore 5, 2) := by decide +kernel
theorem dX3_withoutLastGroups_5 : decode cX3_withoutLastGroups 5 = .ok (.iload 5, 2) := by decide +kernel
theorem dX3_withoutLastGroups_7 : decode cX3_withoutLastGroups 7 = .ok (.iload_n 2, 1) := by decide +kernel
theorem dX3_withoutLastGroups_8 : decode cX3_withoutLastGroups 8 = .ok (.if_icmp .ge 15, 3) := by decide +kernel
theorem dX3_withoutLastGroups_11 : decode cX3_withoutLastGroups 11 = .ok (.lload_n 3, 1) := by decide +kernel
theorem dX3_withoutLastGroups_12 : decode cX3_withoutLastGroups 12 = .ok (.ldc2_w 266, 3) := by decide +kernel
theorem dX3_withoutLastGroups_15 : decode cX3_withoutLastGroups 15 = .ok (.ldiv, 1) := by decide +kernel
theorem dX3_withoutLastGroups_16 : decode cX3_withoutLastGroups 16 = .ok (.lstore_n 3, 1) := by decide +kernel
theorem dX3_withoutLastGroups_17 : decode cX3_withoutLastGroups 17 = .ok (.iinc 5 1, 3) := by decide +kernel
theorem dX3_withoutLastGroups_20 : decode cX3_withoutLastGroups 20 = .ok (.goto (-15), 3) := by decide +kernel
theorem dX3_withoutLastGroups_23 : decode cX3_withoutLastGroups 23 = .ok (.lload_n 3, 1) := by decide +kernel
theorem dX3_withoutLastGroups_24 : decode cX3_withoutLastGroups 24 = .ok (.lreturn, 1) := by decide +kernel
theorem dX3_isPause_0 : decode cX3_isPause 0 = .ok (.iload_n 0, 1) := by decide +kernel
theorem dX3_isPause_1 : decode cX3_isPause 1 = .ok (.iconst 1, 1) := by decide +kernel
theorem dX3_isPause_2 : decode cX3_isPause 2 = .ok (.if_icmp .lt 13, 3) := by decide +kernel
theorem dX3_isPause_5 : decode cX3_isPause 5 = .ok (.iload_n 0, 1) := by decide +kernel
theorem dX3_isPause_6 : decode cX3_isPause 6 = .ok (.bipush 60, 2) := by decide +kernel
theorem dX3_isPause_8 : decode cX3_isPause 8 = .ok (.if_icmp .gt 7, 3) := by decide +kernel
theorem dX3_isPause_11 : decode cX3_isPause 11 = .ok (.iconst 1, 1) := by decide +kernel
theorem dX3_isPause_12 : decode cX3_isPause 12 = .ok (.goto 4, 3) := by decide +kernel
theorem dX3_isPause_15 : decode cX3_isPause 15 = .ok (.iconst 0, 1) := by decide +kernel
theorem dX3_isPause_16 : decode cX3_isPause 16 = .ok (.ireturn, 1) := by decide +kernel
theorem dX3_isWeight_0 : decode cX3_isWeight 0 = .ok (.iload_n 0, 1) := by decide +kernel
theorem dX3_isWeight_1 : decode cX3_isWeight 1 = .ok (.iconst 1, 1) := by decide +kernel
theorem dX3_isWeight_2 : decode cX3_isWeight 2 = .ok (.if_icmp .lt 13, 3) := by decide +kernel
theorem dX3_isWeight_5 : decode cX3_isWeight 5 = .ok (.iload_n 0, 1) := by decide +kernel
theorem dX3_isWeight_6 : decode cX3_isWeight 6 = .ok (.bipush 99, 2) := by decide +kernel
theorem dX3_isWeight_8 : decode cX3_isWeight 8 = .ok (.if_icmp .gt 7, 3) := by decide +kernel
theorem dX3_isWeight_11 : decode cX3_isWeight 11 = .ok (.iconst 1, 1) := by decide +kernel
theorem dX3_isWeight_12 : decode cX3_isWeight 12 = .ok (.goto 4, 3) := by decide +kernel
theorem dX3_isWeight_15 : decode cX3_isWeight 15 = .ok (.iconst 0, 1) := by decide +kernel
theorem dX3_isWeight_16 : decode cX3_isWeight 16 = .ok (.ireturn, 1) := by decide +kernel
theorem dX3_isSetting_0 : decode cX3_isSetting 0 = .ok (.iload_n 0, 1) := by decide +kernel
theorem dX3_isSetting_1 : decode cX3_isSetting 1 = .ok (.ifCond .lt 15, 3) := by decide +kernel
theorem dX3_isSetting_4 : decode cX3_isSetting 4 = .ok (.iload_n 0, 1) := by decide +kernel
theorem dX3_isSetting_5 : decode cX3_isSetting 5 = .ok (.getstatic 297, 3) := by decide +kernel
theorem dX3_isSetting_8 : decode cX3_isSetting 8 = .ok (.arraylength, 1) := by decide +kernel
theorem dX3_isSetting_9 : decode cX3_isSetting 9 = .ok (.if_icmp .ge 7, 3) := by decide +kernel
theorem dX3_isSetting_12 : decode cX3_isSetting 12 = .ok (.iconst 1, 1) := by decide +kernel
theorem dX3_isSetting_13 : decode cX3_isSetting 13 = .ok (.goto 4, 3) := by decide +kernel
theorem dX3_isSetting_16 : decode cX3_isSetting 16 = .ok (.iconst 0, 1) := by decide +kernel
theorem dX3_isSetting_17 : decode cX3_isSetting 17 = .ok (.ireturn, 1) := by decide +kernel
theorem dX3_isValueOfSetting_0 : decode cX3_isValueOfSetting 0 = .ok (.iload_n 0, 1) := by decide +kernel
theorem dX3_isValueOfSetting_1 : decode cX3_isValueOfSetting 1 = .ok (.invokestatic 171, 3) := by decide +kernel
theorem dX3_isValueOfSetting_4 : decode cX3_isValueOfSetting 4 = .ok (.ifCond .eq 29, 3) := by decide +kernel
theorem dX3_isValueOfSetting_7 : decode cX3_isValueOfSetting 7 = .ok (.iload_n 1, 1) := by decide +kernel
theorem dX3_isValueOfSetting_8 : decode cX3_isValueOfSetting 8 = .ok (.getstatic 239, 3) := by decide +kernel
theorem dX3_isValueOfSetting_11 : decode cX3_isValueOfSetting 11 = .ok (.iload_n 0, 1) := by decide +kernel
theorem dX3_isValueOfSetting_12 : decode cX3_isValueOfSetting 12 = .ok (.invokestatic 108, 3) := by decide +kernel
theorem dX3_isValueOfSetting_15 : decode cX3_isValueOfSetting 15 = .ok (.if_icmp .lt 18, 3) := by decide +kernel
theorem dX3_isValueOfSetting_18 : decode cX3_isValueOfSetting 18 = .ok (.iload_n 1, 1) := by decide +kernel
theorem dX3_isValueOfSetting_19 : decode cX3_isValueOfSetting 19 = .ok (.getstatic 242, 3) := by decide +kernel
theorem dX3_isValueOfSetting_22 : decode cX3_isValueOfSetting 22 = .ok (.iload_n 0, 1) := by decide +kernel
theorem dX3_isValueOfSetting_23 : decode cX3_isValueOfSetting 23 = .ok (.invokestatic 108, 3) := by decide +kernel
theorem dX3_isValueOfSetting_26 : decode cX3_isValueOfSetting 26 = .ok (.if_icmp .gt 7, 3) := by decide +kernel
theorem dX3_isValueOfSetting_29 : decode cX3_isValueOfSetting 29 = .ok (.iconst 1, 1) := by decide +kernel
theorem dX3_isValueOfSetting_30 : decode cX3_isValueOfSetting 30 = .ok (.goto 4, 3) := by decide +kernel
theorem dX3_isValueOfSetting_33 : decode cX3_isValueOfSetting 33 = .ok (.iconst 0, 1) := by decide +kernel
theorem dX3_isValueOfSetting_34 : decode cX3_isValueOfSetting 34 = .ok (.ireturn, 1) := by decide +kernel
theorem dX3_at_0 : decode cX3_at 0 = .ok (.iload_n 1, 1) := by decide +kernel
theorem dX3_at_1 : decode cX3_at 1 = .ok (.ifCond .lt 15, 3) := by decide +kernel
theorem dX3_at_4 : decode cX3_at 4 = .ok (.iload_n 1, 1) := by decide +kernel
theorem dX3_at_5 : decode cX3_at 5 = .ok (.aload_n 0, 1) := by decide +kernel
theorem dX3_at_6 : decode cX3_at 6 = .ok (.arraylength, 1) := by decide +kernel
theorem dX3_at_7 : decode cX3_at 7 = .ok (.if_icmp .ge 9, 3) := by decide +kernel
theorem dX3_at_10 : decode cX3_at 10 = .ok (.aload_n 0, 1) := by decide +kernel
theorem dX3_at_11 : decode cX3_at 11 = .ok (.iload_n 1, 1) := by decide +kernel
theorem dX3_at_12 : decode cX3_at 12 = .ok (.iaload, 1) := by decide +kernel
theorem dX3_at_13 : decode cX3_at 13 = .ok (.goto 4, 3) := by decide +kernel
theorem dX3_at_16 : decode cX3_at 16 = .ok (.iconst 0, 1) := by decide +kernel
theorem dX3_at_17 : decode cX3_at 17 = .ok (.ireturn, 1) := by decide +kernel
theorem dX3_copy_0 : decode cX3_copy 0 = .ok (.aload_n 0, 1) := by decide +kernel
theorem dX3_copy_1 : decode cX3_copy 1 = .ok (.ifnull 7, 3) := by decide +kernel
theorem dX3_copy_4 : decode cX3_copy 4 = .ok (.aload_n 1, 1) := by decide +kernel
theorem dX3_copy_5 : decode cX3_copy 5 = .ok (.ifnonnull 4, 3) := by decide +kernel
theorem dX3_copy_8 : decode cX3_copy 8 = .ok (.return_, 1) := by decide +kernel
theorem dX3_copy_9 : decode cX3_copy 9 = .ok (.iconst 0, 1) := by decide +kernel
theorem dX3_copy_10 : decode cX3_copy 10 = .ok (.istore_n 2, 1) := by decide +kernel
theorem dX3_copy_11 : decode cX3_copy 11 = .ok (.iload_n 2, 1) := by decide +kernel
theorem dX3_copy_12 : decode cX3_copy 12 = .ok (.bipush 30, 2) := by decide +kernel
theorem dX3_copy_14 : decode cX3_copy 14 = .ok (.if_icmp .ge 45, 3) := by decide +kernel
theorem dX3_copy_17 : decode cX3_copy 17 = .ok (.aload_n 1, 1) := by decide +kernel
theorem dX3_copy_18 : decode cX3_copy 18 = .ok (.getfield 104, 3) := by decide +kernel
theorem dX3_copy_21 : decode cX3_copy 21 = .ok (.iload_n 2, 1) := by decide +kernel
theorem dX3_copy_22 : decode cX3_copy 22 = .ok (.aload_n 0, 1) := by decide +kernel
theorem dX3_copy_23 : decode cX3_copy 23 = .ok (.getfield 104, 3) := by decide +kernel
theorem dX3_copy_26 : decode cX3_copy 26 = .ok (.iload_n 2, 1) := by decide +kernel
theorem dX3_copy_27 : decode cX3_copy 27 = .ok (.iaload, 1) := by decide +kernel
theorem dX3_copy_28 : decode cX3_copy 28 = .ok (.iastore, 1) := by decide +kernel
theorem dX3_copy_29 : decode cX3_copy 29 = .ok (.aload_n 1, 1) := by decide +kernel
theorem dX3_copy_30 : decode cX3_copy 30 = .ok (.getfield 112, 3) := by decide +kernel
theorem dX3_copy_33 : decode cX3_copy 33 = .ok (.iload_n 2, 1) := by decide +kernel
theorem dX3_copy_34 : decode cX3_copy 34 = .ok (.aload_n 0, 1) := by decide +kernel
theorem dX3_copy_35 : decode cX3_copy 35 = .ok (.getfield 112, 3) := by decide +kernel
theorem dX3_copy_38 : decode cX3_copy 38 = .ok (.iload_n 2, 1) := by decide +kernel
theorem dX3_copy_39 : decode cX3_copy 39 = .ok (.iaload, 1) := by decide +kernel
theorem dX3_copy_40 : decode cX3_copy 40 = .ok (.iastore, 1) := by decide +kernel
theorem dX3_copy_41 : decode cX3_copy 41 = .ok (.aload_n 1, 1) := by decide +kernel
theorem dX3_copy_42 : decode cX3_copy 42 = .ok (.getfield 210, 3) := by decide +kernel
theorem dX3_copy_45 : decode cX3_copy 45 = .ok (.iload_n 2, 1) := by decide +kernel
theorem dX3_copy_46 : decode cX3_copy 46 = .ok (.aload_n 0, 1) := by decide +kernel
theorem dX3_copy_47 : decode cX3_copy 47 = .ok (.getfield 210, 3) := by decide +kernel
theorem dX3_copy_50 : decode cX3_copy 50 = .ok (.iload_n 2, 1) := by decide +kernel
theorem dX3_copy_51 : decode cX3_copy 51 = .ok (.iaload, 1) := by decide +kernel
theorem dX3_copy_52 : decode cX3_copy 52 = .ok (.iastore, 1) := by decide +kernel
theorem dX3_copy_53 : decode cX3_copy 53 = .ok (.iinc 2 1, 3) := by decide +kernel
theorem dX3_copy_56 : decode cX3_copy 56 = .ok (.goto (-45), 3) := by decide +kernel
theorem dX3_copy_59 : decode cX3_copy 59 = .ok (.iconst 0, 1) := by decide +kernel
theorem dX3_copy_60 : decode cX3_copy 60 = .ok (.istore_n 2, 1) := by decide +kernel
theorem dX3_copy_61 : decode cX3_copy 61 = .ok (.iload_n 2, 1) := by decide +kernel
theorem dX3_copy_62 : decode cX3_copy 62 = .ok (.getstatic 297, 3) := by decide +kernel
theorem dX3_copy_65 : decode cX3_copy 65 = .ok (.arraylength, 1) := by decide +kernel
theorem dX3_copy_66 : decode cX3_copy 66 = .ok (.if_icmp .ge 21, 3) := by decide +kernel
theorem dX3_copy_69 : decode cX3_copy 69 = .ok (.aload_n 1, 1) := by decide +kernel
theorem dX3_copy_70 : decode cX3_copy 70 = .ok (.getfield 176, 3) := by decide +kernel
theorem dX3_copy_73 : decode cX3_copy 73 = .ok (.iload_n 2, 1) := by decide +kernel
theorem dX3_copy_74 : decode cX3_copy 74 = .ok (.aload_n 0, 1) := by decide +kernel
theorem dX3_copy_75 : decode cX3_copy 75 = .ok (.getfield 176, 3) := by decide +kernel
theorem dX3_copy_78 : decode cX3_copy 78 = .ok (.iload_n 2, 1) := by decide +kernel
theorem dX3_copy_79 : decode cX3_copy 79 = .ok (.iaload, 1) := by decide +kernel
theorem dX3_copy_80 : decode cX3_copy 80 = .ok (.iastore, 1) := by decide +kernel
theorem dX3_copy_81 : decode cX3_copy 81 = .ok (.iinc 2 1, 3) := by decide +kernel
theorem dX3_copy_84 : decode cX3_copy 84 = .ok (.goto (-23), 3) := by decide +kernel
theorem dX3_copy_87 : decode cX3_copy 87 = .ok (.aload_n 1, 1) := by decide +kernel
theorem dX3_copy_88 : decode cX3_copy 88 = .ok (.aload_n 0, 1) := by decide +kernel
theorem dX3_copy_89 : decode cX3_copy 89 = .ok (.getfield 79, 3) := by decide +kernel
theorem dX3_copy_92 : decode cX3_copy 92 = .ok (.putfield 79, 3) := by decide +kernel
theorem dX3_copy_95 : decode cX3_copy 95 = .ok (.return_, 1) := by decide +kernel
theorem dX4_init_0 : decode cX4_init 0 = .ok (.aload_n 0, 1) := by decide +kernel
theorem dX4_init_1 : decode cX4_init 1 = .ok (.invokespecial 1, 3) := by decide +kernel
theorem dX4_init_4 : decode cX4_init 4 = .ok (.aload_n 0, 1) := by decide +kernel
theorem dX4_init_5 : decode cX4_init 5 = .ok (.bipush 120, 2) := by decide +kernel
theorem dX4_init_7 : decode cX4_init 7 = .ok (.newarray .int, 2) := by decide +kernel
theorem dX4_init_9 : decode cX4_init 9 = .ok (.putfield 7, 3) := by decide +kernel
theorem dX4_init_12 : decode cX4_init 12 = .ok (.aload_n 0, 1) := by decide +kernel
theorem dX4_init_13 : decode cX4_init 13 = .ok (.bipush 30, 2) := by decide +kernel
theorem dX4_init_15 : decode cX4_init 15 = .ok (.newarray .int, 2) := by decide +kernel
theorem dX4_init_17 : decode cX4_init 17 = .ok (.putfield 13, 3) := by decide +kernel
theorem dX4_init_20 : decode cX4_init 20 = .ok (.aload_n 0, 1) := by decide +kernel
theorem dX4_init_21 : decode cX4_init 21 = .ok (.bipush 30, 2) := by decide +kernel
theorem dX4_init_23 : decode cX4_init 23 = .ok (.newarray .int, 2) := by decide +kernel
theorem dX4_init_25 : decode cX4_init 25 = .ok (.putfield 16, 3) := by decide +kernel
theorem dX4_init_28 : decode cX4_init 28 = .ok (.aload_n 0, 1) := by decide +kernel
theorem dX4_init_29 : decode cX4_init 29 = .ok (.iconst 4, 1) := by decide +kernel
theorem dX4_init_30 : decode cX4_init 30 = .ok (.newarray .int, 2) := by decide +kernel
theorem dX4_init_32 : decode cX4_init 32 = .ok (.putfield 19, 3) := by decide +kernel
theorem dX4_init_35 : decode cX4_init 35 = .ok (.aload_n 0, 1) := by decide +kernel
theorem dX4_init_36 : decode cX4_init 36 = .ok (.iconst 4, 1) := by decide +kernel
theorem dX4_init_37 : decode cX4_init 37 = .ok (.newarray .int, 2) := by decide +kernel
theorem dX4_init_39 : decode cX4_init 39 = .ok (.putfield 22, 3) := by decide +kernel
theorem dX4_init_42 : decode cX4_init 42 = .ok (.aload_n 0, 1) := by decide +kernel
theorem dX4_init_43 : decode cX4_init 43 = .ok (.iconst 4, 1) := by decide +kernel
theorem dX4_init_44 : decode cX4_init 44 = .ok (.newarray .int, 2) := by decide +kernel
theorem dX4_init_46 : decode cX4_init 46 = .ok (.putfield 25, 3) := by decide +kernel
theorem dX4_init_49 : decode cX4_init 49 = .ok (.aload_n 0, 1) := by decide +kernel
theorem dX4_init_50 : decode cX4_init 50 = .ok (.bipush 95, 2) := by decide +kernel
theorem dX4_init_52 : decode cX4_init 52 = .ok (.newarray .int, 2) := by decide +kernel
theorem dX4_init_54 : decode cX4_init 54 = .ok (.putfield 28, 3) := by decide +kernel
theorem dX4_init_57 : decode cX4_init 57 = .ok (.aload_n 0, 1) := by decide +kernel
theorem dX4_init_58 : decode cX4_init 58 = .ok (.bipush 95, 2) := by decide +kernel
theorem dX4_init_60 : decode cX4_init 60 = .ok (.newarray .int, 2) := by decide +kernel
theorem dX4_init_62 : decode cX4_init 62 = .ok (.putfield 31, 3) := by decide +kernel
theorem dX4_init_65 : decode cX4_init 65 = .ok (.aload_n 0, 1) := by decide +kernel
theorem dX4_init_66 : decode cX4_init 66 = .ok (.sipush 1330, 3) := by decide +kernel
theorem dX4_init_69 : decode cX4_init 69 = .ok (.newarray .int, 2) := by decide +kernel
theorem dX4_init_71 : decode cX4_init 71 = .ok (.putfield 34, 3) := by decide +kernel
theorem dX4_init_74 : decode cX4_init 74 = .ok (.aload_n 0, 1) := by decide +kernel
theorem dX4_init_75 : decode cX4_init 75 = .ok (.sipush 190, 3) := by decide +kernel
theorem dX4_init_78 : decode cX4_init 78 = .ok (.newarray .int, 2) := by decide +kernel
theorem dX4_init_80 : decode cX4_init 80 = .ok (.putfield 37, 3) := by decide +kernel
theorem dX4_init_83 : decode cX4_init 83 = .ok (.aload_n 0, 1) := by decide +kernel
theorem dX4_init_84 : decode cX4_init 84 = .ok (.iconst 2, 1) := by decide +kernel
theorem dX4_init_85 : decode cX4_init 85 = .ok (.newarray .boolean, 2) := by decide +kernel
theorem dX4_init_87 : decode cX4_init 87 = .ok (.putfield 40, 3) := by decide +kernel
theorem dX4_init_90 : decode cX4_init 90 = .ok (.aload_n 0, 1) := by decide +kernel
theorem dX4_init_91 : decode cX4_init 91 = .ok (.sipush 1024, 3) := by decide +kernel
theorem dX4_init_94 : decode cX4_init 94 = .ok (.newarray .int, 2) := by decide +kernel
theorem dX4_init_96 : decode cX4_init 96 = .ok (.putfield 44, 3) := by decide +kernel
theorem dX4_init_99 : decode cX4_init 99 = .ok (.aload_n 0, 1) := by decide +kernel
theorem dX4_init_100 : decode cX4_init 100 = .ok (.bipush 31, 2) := by decide +kernel
theorem dX4_init_102 : decode cX4_init 102 = .ok (.newarray .int, 2) := by decide +kernel
theorem dX4_init_104 : decode cX4_init 104 = .ok (.putfield 47, 3) := by decide +kernel
theorem dX4_init_107 : decode cX4_init 107 = .ok (.aload_n 0, 1) := by decide +kernel
theorem dX4_init_108 : decode cX4_init 108 = .ok (.bipush 31, 2) := by decide +kernel
theorem dX4_init_110 : decode cX4_init 110 = .ok (.newarray .int, 2) := by decide +kernel
theorem dX4_init_112 : decode cX4_init 112 = .ok (.putfield 50, 3) := by decide +kernel
theorem dX4_init_115 : decode cX4_init 115 = .ok (.aload_n 0, 1) := by decide +kernel
theorem dX4_init_116 : decode cX4_init 116 = .ok (.bipush 30, 2) := by decide +kernel
theorem dX4_init_118 : decode cX4_init 118 = .ok (.newarray .int, 2) := by decide +kernel
theorem dX4_init_120 : decode cX4_init 120 = .ok (.putfield 53, 3) := by decide +kernel
theorem dX4_init_123 : decode cX4_init 123 = .ok (.aload_n 0, 1) := by decide +kernel
theorem dX4_init_124 : decode cX4_init 124 = .ok (.bipush 15, 2) := by decide +kernel
theorem dX4_init_126 : decode cX4_init 126 = .ok (.newarray .int, 2) := by decide +kernel
theorem dX4_init_128 : decode cX4_init 128 = .ok (.putfield 56, 3) := by decide +kernel
theorem dX4_init_131 : decode cX4_init 131 = .ok (.aload_n 0, 1) := by decide +kernel
theorem dX4_init_132 : decode cX4_init 132 = .ok (.getfield 28, 3) := by decide +kernel
theorem dX4_init_135 : decode cX4_init 135 = .ok (.iconst 1, 1) := by decide +kernel
theorem dX4_init_136 : decode cX4_init 136 = .ok (.iconst 4, 1) := by decide +kernel
theorem dX4_init_137 : decode cX4_init 137 = .ok (.iastore, 1) := by decide +kernel
theorem dX4_init_138 : decode cX4_init 138 = .ok (.aload_n 0, 1) := by decide +kernel
theorem dX4_init_139 : decode cX4_init 139 = .ok (.getfield 28, 3) := by decide +kernel
theorem dX4_init_142 : decode cX4_init 142 = .ok (.iconst 2, 1) := by decide +kernel
theorem dX4_init_143 : decode cX4_init 143 = .ok (.bipush 6, 2) := by decide +kernel
theorem dX4_init_145 : decode cX4_init 145 = .ok (.iastore, 1) := by decide +kernel
theorem dX4_init_146 : decode cX4_init 146 = .ok (.aload_n 0, 1) := by decide +kernel
theorem dX4_init_147 : decode cX4_init 147 = .ok (.getfield 28, 3) := by decide +kernel
theorem dX4_init_150 : decode cX4_init 150 = .ok (.iconst 3, 1) := by decide +kernel
theorem dX4_init_151 : decode cX4_init 151 = .ok (.bipush 15, 2) := by decide +kernel
theorem dX4_init_153 : decode cX4_init 153 = .ok (.iastore, 1) := by decide +kernel
theorem dX4_init_154 : decode cX4_init 154 = .ok (.aload_n 0, 1) := by decide +kernel
theorem dX4_init_155 : decode cX4_init 155 = .ok (.getfield 28, 3) := by decide +kernel
theorem dX4_init_158 : decode cX4_init 158 = .ok (.iconst 4, 1) := by decide +kernel
theorem dX4_init_159 : decode cX4_init 159 = .ok (.bipush 40, 2) := by decide +kernel
theorem dX4_init_161 : decode cX4_init 161 = .ok (.iastore, 1) := by decide +kernel
theorem dX4_init_162 : decode cX4_init 162 = .ok (.return_, 1) := by decide +kernel
theorem dX4_thrown_0 : decode cX4_thrown 0 = .ok (.aload_n 0, 1) := by decide +kernel
theorem dX4_thrown_1 : decode cX4_thrown 1 = .ok (.getfield 59, 3) := by decide +kernel
theorem dX4_thrown_4 : decode cX4_thrown 4 = .ok (.ireturn, 1) := by decide +kernel
theorem dX4_refused_0 : decode cX4_refused 0 = .ok (.aload_n 0, 1) := by decide +kernel
theorem dX4_refused_1 : decode cX4_refused 1 = .ok (.iload_n 1, 1) := by decide +kernel
theorem dX4_refused_2 : decode cX4_refused 2 = .ok (.putfield 59, 3) := by decide +kernel
theorem dX4_refused_5 : decode cX4_refused 5 = .ok (.iload_n 1, 1) := by decide +kernel
theorem dX4_refused_6 : decode cX4_refused 6 = .ok (.ifCond .le 7, 3) := by decide +kernel
theorem dX4_refused_9 : decode cX4_refused 9 = .ok (.iconst 1, 1) := by decide +kernel
theorem dX4_refused_10 : decode cX4_refused 10 = .ok (.goto 4, 3) := by decide +kernel
theorem dX4_refused_13 : decode cX4_refused 13 = .ok (.iconst 0, 1) := by decide +kernel
theorem dX4_refused_14 : decode cX4_refused 14 = .ok (.ireturn, 1) := by decide +kernel
theorem dX4_in_0 : decode cX4_in 0 = .ok (.lload_n 0, 1) := by decide +kernel
theorem dX4_in_1 : decode cX4_in 1 = .ok (.lload_n 2, 1) := by decide +kernel
theorem dX4_in_2 : decode cX4_in 2 = .ok (.lcmp, 1) := by decide +kernel
theorem dX4_in_3 : decode cX4_in 3 = .ok (.ifCond .lt 14, 3) := by decide +kernel
theorem dX4_in_6 : decode cX4_in 6 = .ok (.lload_n 0, 1) := by decide +kernel
theorem dX4_in_7 : decode cX4_in 7 = .ok (.lload 4, 2) := by decide +kernel
theorem dX4_in_9 : decode cX4_in 9 = .ok (.lcmp, 1) := by decide +kernel
theorem dX4_in_10 : decode cX4_in 10 = .ok (.ifCond .gt 7, 3) := by decide +kernel
theorem dX4_in_13 : decode cX4_in 13 = .ok (.iconst 1, 1) := by decide +kernel
theorem dX4_in_14 : decode cX4_in 14 = .ok (.goto 4, 3) := by decide +kernel
theorem dX4_in_17 : decode cX4_in 17 = .ok (.iconst 0, 1) := by decide +kernel
theorem dX4_in_18 : decode cX4_in 18 = .ok (.ireturn, 1) := by decide +kernel
theorem dX4_size_0 : decode cX4_size 0 = .ok (.iload_n 0, 1) := by decide +kernel
theorem dX4_size_1 : decode cX4_size 1 = .ok (.ifCond .ge 8, 3) := by decide +kernel
theorem dX4_size_4 : decode cX4_size 4 = .ok (.iload_n 0, 1) := by decide +kernel
theorem dX4_size_5 : decode cX4_size 5 = .ok (.ineg, 1) := by decide +kernel
theorem dX4_size_6 : decode cX4_size 6 = .ok (.goto 4, 3) := by decide +kernel
theorem dX4_size_9 : decode cX4_size 9 = .ok (.iload_n 0, 1) := by decide +kernel
theorem dX4_size_10 : decode cX4_size 10 = .ok (.ireturn, 1) := by decide +kernel
theorem dX4_copy_0 : decode cX4_copy 0 = .ok (.iconst 0, 1) := by decide +kernel
theorem dX4_copy_1 : decode cX4_copy 1 = .ok (.istore 5, 2) := by decide +kernel
theorem dX4_copy_3 : decode cX4_copy 3 = .ok (.iload 5, 2) := by decide +kernel
theorem dX4_copy_5 : decode cX4_copy 5 = .ok (.iload 4, 2) := by decide +kernel
theorem dX4_copy_7 : decode cX4_copy 7 = .ok (.if_icmp .ge 21, 3) := by decide +kernel
theorem dX4_copy_10 : decode cX4_copy 10 = .ok (.aload_n 2, 1) := by decide +kernel
theorem dX4_copy_11 : decode cX4_copy 11 = .ok (.iload_n 3, 1) := by decide +kernel
theorem dX4_copy_12 : decode cX4_copy 12 = .ok (.iload 5, 2) := by decide +kernel
theorem dX4_copy_14 : decode cX4_copy 14 = .ok (.iadd, 1) := by decide +kernel
theorem dX4_copy_15 : decode cX4_copy 15 = .ok (.aload_n 0, 1) := by decide +kernel
theorem dX4_copy_16 : decode cX4_copy 16 = .ok (.iload_n 1, 1) := by decide +kernel
theorem dX4_copy_17 : decode cX4_copy 17 = .ok (.iload 5, 2) := by decide +kernel
theorem dX4_copy_19 : decode cX4_copy 19 = .ok (.iadd, 1) := by decide +kernel
theorem dX4_copy_20 : decode cX4_copy 20 = .ok (.iaload, 1) := by decide +kernel
theorem dX4_copy_21 : decode cX4_copy 21 = .ok (.iastore, 1) := by decide +kernel
theorem dX4_copy_22 : decode cX4_copy 22 = .ok (.iinc 5 1, 3) := by decide +kernel
theorem dX4_copy_25 : decode cX4_copy 25 = .ok (.goto (-22), 3) := by decide +kernel
theorem dX4_copy_28 : decode cX4_copy 28 = .ok (.return_, 1) := by decide +kernel
theorem dX4_tenTo_0 : decode cX4_tenTo 0 = .ok (.lconst 1, 1) := by decide +kernel
theorem dX4_tenTo_1 : decode cX4_tenTo 1 = .ok (.lstore_n 1, 1) := by decide +kernel
theorem dX4_tenTo_2 : decode cX4_tenTo 2 = .ok (.iconst 0, 1) := by decide +kernel
theorem dX4_tenTo_3 : decode cX4_tenTo 3 = .ok (.istore_n 3, 1) := by decide +kernel
theorem dX4_tenTo_4 : decode cX4_tenTo 4 = .ok (.iload_n 3, 1) := by decide +kernel
theorem dX4_tenTo_5 : decode cX4_tenTo 5 = .ok (.iload_n 0, 1) := by decide +kernel
theorem dX4_tenTo_6 : decode cX4_tenTo 6 = .ok (.if_icmp .ge 15, 3) := by decide +kernel
theorem dX4_tenTo_9 : decode cX4_tenTo 9 = .ok (.lload_n 1, 1) := by decide +kernel
theorem dX4_tenTo_10 : decode cX4_tenTo 10 = .ok (.ldc2_w 63, 3) := by decide +kernel
theorem dX4_tenTo_13 : decode cX4_tenTo 13 = .ok (.lmul, 1) := by decide +kernel
theorem dX4_tenTo_14 : decode cX4_tenTo 14 = .ok (.lstore_n 1, 1) := by decide +kernel
theorem dX4_tenTo_15 : decode cX4_tenTo 15 = .ok (.iinc 3 1, 3) := by decide +kernel
theorem dX4_tenTo_18 : decode cX4_tenTo 18 = .ok (.goto (-14), 3) := by decide +kernel
theorem dX4_tenTo_21 : decode cX4_tenTo 21 = .ok (.lload_n 1, 1) := by decide +kernel
theorem dX4_tenTo_22 : decode cX4_tenTo 22 = .ok (.lreturn, 1) := by decide +kernel
theorem dX4_remember_0 : decode cX4_remember 0 = .ok (.aload_n 0, 1) := by decide +kernel
theorem dX4_remember_1 : decode cX4_remember 1 = .ok (.getfield 65, 3) := by decide +kernel
theorem dX4_remember_4 : decode cX4_remember 4 = .ok (.bipush 14, 2) := by decide +kernel
theorem dX4_remember_6 : decode cX4_remember 6 = .ok (.if_icmp .ne 30, 3) := by decide +kernel
theorem dX4_remember_9 : decode cX4_remember 9 = .ok (.aload_n 0, 1) := by decide +kernel
theorem dX4_remember_10 : decode cX4_remember 10 = .ok (.getfield 34, 3) := by decide +kernel
theorem dX4_remember_13 : decode cX4_remember 13 = .ok (.bipush 95, 2) := by decide +kernel
theorem dX4_remember_15 : decode cX4_remember 15 = .ok (.aload_n 0, 1) := by decide +kernel
theorem dX4_remember_16 : decode cX4_remember 16 = .ok (.getfield 34, 3) := by decide +kernel
theorem dX4_remember_19 : decode cX4_remember 19 = .ok (.iconst 0, 1) := by decide +kernel
theorem dX4_remember_20 : decode cX4_remember 20 = .ok (.sipush 1235, 3) := by decide +kernel
theorem dX4_remember_23 : decode cX4_remember 23 = .ok (.invokestatic 68, 3) := by decide +kernel
theorem dX4_remember_26 : decode cX4_remember 26 = .ok (.aload_n 0, 1) := by decide +kernel
theorem dX4_remember_27 : decode cX4_remember 27 = .ok (.dup, 1) := by decide +kernel
theorem dX4_remember_28 : decode cX4_remember 28 = .ok (.getfield 65, 3) := by decide +kernel
theorem dX4_remember_31 : decode cX4_remember 31 = .ok (.iconst 1, 1) := by decide +kernel
theorem dX4_remember_32 : decode cX4_remember 32 = .ok (.isub, 1) := by decide +kernel
theorem dX4_remember_33 : decode cX4_remember 33 = .ok (.putfield 65, 3) := by decide +kernel
theorem dX4_remember_36 : decode cX4_remember 36 = .ok (.aload_n 0, 1) := by decide +kernel
theorem dX4_remember_37 : decode cX4_remember 37 = .ok (.getfield 28, 3) := by decide +kernel
theorem dX4_remember_40 : decode cX4_remember 40 = .ok (.iconst 0, 1) := by decide +kernel
theorem dX4_remember_41 : decode cX4_remember 41 = .ok (.aload_n 0, 1) := by decide +kernel
theorem dX4_remember_42 : decode cX4_remember 42 = .ok (.getfield 34, 3) := by decide +kernel
theorem dX4_remember_45 : decode cX4_remember 45 = .ok (.bipush 95, 2) := by decide +kernel
theorem dX4_remember_47 : decode cX4_remember 47 = .ok (.aload_n 0, 1) := by decide +kernel
theorem dX4_remember_48 : decode cX4_remember 48 = .ok (.getfield 65, 3) := by decide +kernel
theorem dX4_remember_51 : decode cX4_remember 51 = .ok (.imul, 1) := by decide +kernel
theorem dX4_remember_52 : decode cX4_remember 52 = .ok (.bipush 95, 2) := by decide +kernel
theorem dX4_remember_54 : decode cX4_remember 54 = .ok (.invokestatic 68, 3) := by decide +kernel
theorem dX4_remember_57 : decode cX4_remember 57 = .ok (.aload_n 0, 1) := by decide +kernel
theorem dX4_remember_58 : decode cX4_remember 58 = .ok (.dup, 1) := by decide +kernel
theorem dX4_remember_59 : decode cX4_remember 59 = .ok (.getfield 65, 3) := by decide +kernel
theorem dX4_remember_62 : decode cX4_remember 62 = .ok (.iconst 1, 1) := by decide +kernel
theorem dX4_remember_63 : decode cX4_remember 63 = .ok (.iadd, 1) := by decide +kernel
theorem dX4_remember_64 : decode cX4_remember 64 = .ok (.putfield 65, 3) := by decide +kernel
theorem dX4_remember_67 : decode cX4_remember 67 = .ok (.return_, 1) := by decide +kernel
theorem dX4_tryIt_0 : decode cX4_tryIt 0 = .ok (.aload_n 0, 1) := by decide +kernel
theorem dX4_tryIt_1 : decode cX4_tryIt 1 = .ok (.getfield 28, 3) := by decide +kernel
theorem dX4_tryIt_4 : decode cX4_tryIt 4 = .ok (.iconst 0, 1) := by decide +kernel
theorem dX4_tryIt_5 : decode cX4_tryIt 5 = .ok (.aload_n 0, 1) := by decide +kernel
theorem dX4_tryIt_6 : decode cX4_tryIt 6 = .ok (.getfield 31, 3) := by decide +kernel
theorem dX4_tryIt_9 : decode cX4_tryIt 9 = .ok (.iconst 0, 1) := by decide +kernel
theorem dX4_tryIt_10 : decode cX4_tryIt 10 = .ok (.bipush 95, 2) := by decide +kernel
theorem dX4_tryIt_12 : decode cX4_tryIt 12 = .ok (.invokestatic 68, 3) := by decide +kernel
theorem dX4_tryIt_15 : decode cX4_tryIt 15 = .ok (.return_, 1) := by decide +kernel
theorem dX4_carCost_0 : decode cX4_carCost 0 = .ok (.iconst 3, 1) := by decide +kernel
theorem dX4_carCost_1 : decode cX4_carCost 1 = .ok (.aload_n 0, 1) := by decide +kernel
theorem dX4_carCost_2 : decode cX4_carCost 2 = .ok (.bipush 35, 2) := by decide +kernel
theorem dX4_carCost_4 : decode cX4_carCost 4 = .ok (.iload_n 1, 1) := by decide +kernel
theorem dX4_carCost_5 : decode cX4_carCost 5 = .ok (.iadd, 1) := by decide +kernel
theorem dX4_carCost_6 : decode cX4_carCost 6 = .ok (.iconst 1, 1) := by decide +kernel
theorem dX4_carCost_7 : decode cX4_carCost 7 = .ok (.iadd, 1) := by decide +kernel
theorem dX4_carCost_8 : decode cX4_carCost 8 = .ok (.iaload, 1) := by decide +kernel
theorem dX4_carCost_9 : decode cX4_carCost 9 = .ok (.aload_n 0, 1) := by decide +kernel
theorem dX4_carCost_10 : decode cX4_carCost 10 = .ok (.iconst 1, 1) := by decide +kernel
theorem dX4_carCost_11 : decode cX4_carCost 11 = .ok (.iaload, 1) := by decide +kernel
theorem dX4_carCost_12 : decode cX4_carCost 12 = .ok (.isub, 1) := by decide +kernel
theorem dX4_carCost_13 : decode cX4_carCost 13 = .ok (.invokestatic 72, 3) := by decide +kernel
theorem dX4_carCost_16 : decode cX4_carCost 16 = .ok (.imul, 1) := by decide +kernel
theorem dX4_carCost_17 : decode cX4_carCost 17 = .ok (.aload_n 0, 1) := by decide +kernel
theorem dX4_carCost_18 : decode cX4_carCost 18 = .ok (.bipush 65, 2) := by decide +kernel
theorem dX4_carCost_20 : decode cX4_carCost 20 = .ok (.iload_n 1, 1) := by decide +kernel
theorem dX4_carCost_21 : decode cX4_carCost 21 = .ok (.iadd, 1) := by decide +kernel
theorem dX4_carCost_22 : decode cX4_carCost 22 = .ok (.iaload, 1) := by decide +kernel
theorem dX4_carCost_23 : decode cX4_carCost 23 = .ok (.aload_n 0, 1) := by decide +kernel
theorem dX4_carCost_24 : decode cX4_carCost 24 = .ok (.bipush 65, 2) := by decide +kernel
theorem dX4_carCost_26 : decode cX4_carCost 26 = .ok (.iload_n 1, 1) := by decide +kernel
theorem dX4_carCost_27 : decode cX4_carCost 27 = .ok (.iadd, 1) := by decide +kernel
theorem dX4_carCost_28 : decode cX4_carCost 28 = .ok (.iconst 1, 1) := by decide +kernel
theorem dX4_carCost_29 : decode cX4_carCost 29 = .ok (.iadd, 1) := by decide +kernel
theorem dX4_carCost_30 : decode cX4_carCost 30 = .ok (.iaload, 1) := by decide +kernel
theorem dX4_carCost_31 : decode cX4_carCost 31 = .ok (.isub, 1) := by decide +kernel
theorem dX4_carCost_32 : decode cX4_carCost 32 = .ok (.invokestatic 72, 3) := by decide +kernel
theorem dX4_carCost_35 : decode cX4_carCost 35 = .ok (.iadd, 1) := by decide +kernel
theorem dX4_carCost_36 : decode cX4_carCost 36 = .ok (.ireturn, 1) := by decide +kernel
theorem dX4_gapCost_0 : decode cX4_gapCost 0 = .ok (.aload_n 0, 1) := by decide +kernel
theorem dX4_gapCost_1 : decode cX4_gapCost 1 = .ok (.getfield 47, 3) := by decide +kernel
theorem dX4_gapCost_4 : decode cX4_gapCost 4 = .ok (.iload_n 3, 1) := by decide +kernel
theorem dX4_gapCost_5 : decode cX4_gapCost 5 = .ok (.iaload, 1) := by decide +kernel
theorem dX4_gapCost_6 : decode cX4_gapCost 6 = .ok (.aload_n 0, 1) := by decide +kernel
theorem dX4_gapCost_7 : decode cX4_gapCost 7 = .ok (.getfield 47, 3) := by decide +kernel
theorem dX4_gapCost_10 : decode cX4_gapCost 10 = .ok (.iload_n 2, 1) := by decide +kernel
theorem dX4_gapCost_11 : decode cX4_gapCost 11 = .ok (.iaload, 1) := by decide +kernel
theorem dX4_gapCost_12 : decode cX4_gapCost 12 = .ok (.isub, 1) := by decide +kernel
theorem dX4_gapCost_13 : decode cX4_gapCost 13 = .ok (.istore 4, 2) := by decide +kernel
theorem dX4_gapCost_15 : decode cX4_gapCost 15 = .ok (.iload 4, 2) := by decide +kernel
theorem dX4_gapCost_17 : decode cX4_gapCost 17 = .ok (.aload_n 1, 1) := by decide +kernel
theorem dX4_gapCost_18 : decode cX4_gapCost 18 = .ok (.iconst 2, 1) := by decide +kernel
theorem dX4_gapCost_19 : decode cX4_gapCost 19 = .ok (.iaload, 1) := by decide +kernel
theorem dX4_gapCost_20 : decode cX4_gapCost 20 = .ok (.if_icmp .ge 14, 3) := by decide +kernel
theorem dX4_gapCost_23 : decode cX4_gapCost 23 = .ok (.iconst 2, 1) := by decide +kernel
theorem dX4_gapCost_24 : decode cX4_gapCost 24 = .ok (.aload_n 1, 1) := by decide +kernel
theorem dX4_gapCost_25 : decode cX4_gapCost 25 = .ok (.iconst 2, 1) := by decide +kernel
theorem dX4_gapCost_26 : decode cX4_gapCost 26 = .ok (.iaload, 1) := by decide +kernel
theorem dX4_gapCost_27 : decode cX4_gapCost 27 = .ok (.iload 4, 2) := by decide +kernel
theorem dX4_gapCost_29 : decode cX4_gapCost 29 = .ok (.isub, 1) := by decide +kernel
theorem dX4_gapCost_30 : decode cX4_gapCost 30 = .ok (.imul, 1) := by decide +kernel
theorem dX4_gapCost_31 : decode cX4_gapCost 31 = .ok (.goto 4, 3) := by decide +kernel
theorem dX4_gapCost_34 : decode cX4_gapCost 34 = .ok (.iconst 0, 1) := by decide +kernel
theorem dX4_gapCost_35 : decode cX4_gapCost 35 = .ok (.ireturn, 1) := by decide +kernel
theorem dX4_place_0 : decode cX4_place 0 = .ok (.bipush 32, 2) := by decide +kernel
theorem dX4_place_2 : decode cX4_place 2 = .ok (.iload_n 1, 1) := by decide +kernel
theorem dX4_place_3 : decode cX4_place 3 = .ok (.iload_n 0, 1) := by decide +kernel
theorem dX4_place_4 : decode cX4_place 4 = .ok (.isub, 1) := by decide +kernel
theorem dX4_place_5 : decode cX4_place 5 = .ok (.imul, 1) := by decide +kernel
theorem dX4_place_6 : decode cX4_place 6 = .ok (.iload_n 2, 1) := by decide +kernel
theorem dX4_place_7 : decode cX4_place 7 = .ok (.iadd, 1) := by decide +kernel
theorem dX4_place_8 : decode cX4_place 8 = .ok (.ireturn, 1) := by decide +kernel
theorem dX4_withCar_0 : decode cX4_withCar 0 = .ok (.iload 4, 2) := by decide +kernel
theorem dX4_withCar_2 : decode cX4_withCar 2 = .ok (.ifCond .ne 7, 3) := by decide +kernel
theorem dX4_withCar_5 : decode cX4_withCar 5 = .ok (.iconst 0, 1) := by decide +kernel
theorem dX4_withCar_6 : decode cX4_withCar 6 = .ok (.goto 15, 3) := by decide +kernel
theorem dX4_withCar_9 : decode cX4_withCar 9 = .ok (.aload_n 0, 1) := by decide +kernel
theorem dX4_withCar_10 : decode cX4_withCar 10 = .ok (.aload_n 1, 1) := by decide +kernel
theorem dX4_withCar_11 : decode cX4_withCar 11 = .ok (.iload_n 2, 1) := by decide +kernel
theorem dX4_withCar_12 : decode cX4_withCar 12 = .ok (.iload 4, 2) := by decide +kernel
theorem dX4_withCar_14 : decode cX4_withCar 14 = .ok (.iadd, 1) := by decide +kernel
theorem dX4_withCar_15 : decode cX4_withCar 15 = .ok (.iconst 1, 1) := by decide +kernel
theorem dX4_withCar_16 : decode cX4_withCar 16 = .ok (.isub, 1) := by decide +kernel
theorem dX4_withCar_17 : decode cX4_withCar 17 = .ok (.iload_n 3, 1) := by decide +kernel
theorem dX4_withCar_18 : decode cX4_withCar 18 = .ok (.invokevirtual 76, 3) := by decide +kernel
theorem dX4_withCar_21 : decode cX4_withCar 21 = .ok (.istore 5, 2) := by decide +kernel
theorem dX4_withCar_23 : decode cX4_withCar 23 = .ok (.bipush 100, 2) := by decide +kernel
theorem dX4_withCar_25 : decode cX4_withCar 25 = .ok (.aload_n 1, 1) := by decide +kernel
theorem dX4_withCar_26 : decode cX4_withCar 26 = .ok (.iload_n 3, 1) := by decide +kernel
theorem dX4_withCar_27 : decode cX4_withCar 27 = .ok (.invokestatic 80, 3) := by decide +kernel
theorem dX4_withCar_30 : decode cX4_withCar 30 = .ok (.iload 5, 2) := by decide +kernel
theorem dX4_withCar_32 : decode cX4_withCar 32 = .ok (.iadd, 1) := by decide +kernel
theorem dX4_withCar_33 : decode cX4_withCar 33 = .ok (.imul, 1) := by decide +kernel
theorem dX4_withCar_34 : decode cX4_withCar 34 = .ok (.iconst 1, 1) := by decide +kernel
theorem dX4_withCar_35 : decode cX4_withCar 35 = .ok (.isub, 1) := by decide +kernel
theorem dX4_withCar_36 : decode cX4_withCar 36 = .ok (.aload_n 0, 1) := by decide +kernel
theorem dX4_withCar_37 : decode cX4_withCar 37 = .ok (.getfield 44, 3) := by decide +kernel
theorem dX4_withCar_40 : decode cX4_withCar 40 = .ok (.iload_n 2, 1) := by decide +kernel
theorem dX4_withCar_41 : decode cX4_withCar 41 = .ok (.iload_n 3, 1) := by decide +kernel
theorem dX4_withCar_42 : decode cX4_withCar 42 = .ok (.iconst 2, 1) := by decide +kernel
theorem dX4_withCar_43 : decode cX4_withCar 43 = .ok (.iadd, 1) := by decide +kernel
theorem dX4_withCar_44 : decode cX4_withCar 44 = .ok (.iload_n 3, 1) := by decide +kernel
theorem dX4_withCar_45 : decode cX4_withCar 45 = .ok (.iconst 2, 1) := by decide +kernel
theorem dX4_withCar_46 : decode cX4_withCar 46 = .ok (.iadd, 1) := by decide +kernel
theorem dX4_withCar_47 : decode cX4_withCar 47 = .ok (.iload_n 2, 1) := by decide +kernel
theorem dX4_withCar_48 : decode cX4_withCar 48 = .ok (.isub, 1) := by decide +kernel
theorem dX4_withCar_49 : decode cX4_withCar 49 = .ok (.invokestatic 84, 3) := by decide +kernel
theorem dX4_withCar_52 : decode cX4_withCar 52 = .ok (.iaload, 1) := by decide +kernel
theorem dX4_withCar_53 : decode cX4_withCar 53 = .ok (.iadd, 1) := by decide +kernel
theorem dX4_withCar_54 : decode cX4_withCar 54 = .ok (.ireturn, 1) := by decide +kernel
theorem dX4_withStray_0 : decode cX4_withStray 0 = .ok (.bipush 100, 2) := by decide +kernel
theorem dX4_withStray_2 : decode cX4_withStray 2 = .ok (.aload_n 1, 1) := by decide +kernel
theorem dX4_withStray_3 : decode cX4_withStray 3 = .ok (.iconst 3, 1) := by decide +kernel
theorem dX4_withStray_4 : decode cX4_withStray 4 = .ok (.iaload, 1) := by decide +kernel
theorem dX4_withStray_5 : decode cX4_withStray 5 = .ok (.imul, 1) := by decide +kernel
theorem dX4_withStray_6 : decode cX4_withStray 6 = .ok (.aload_n 0, 1) := by decide +kernel
theorem dX4_withStray_7 : decode cX4_withStray 7 = .ok (.getfield 44, 3) := by decide +kernel
theorem dX4_withStray_10 : decode cX4_withStray 10 = .ok (.iload_n 2, 1) := by decide +kernel
theorem dX4_withStray_11 : decode cX4_withStray 11 = .ok (.iload_n 3, 1) := by decide +kernel
theorem dX4_withStray_12 : decode cX4_withStray 12 = .ok (.iconst 1, 1) := by decide +kernel
theorem dX4_withStray_13 : decode cX4_withStray 13 = .ok (.iadd, 1) := by decide +kernel
theorem dX4_withStray_14 : decode cX4_withStray 14 = .ok (.iload 4, 2) := by decide +kernel
theorem dX4_withStray_16 : decode cX4_withStray 16 = .ok (.invokestatic 84, 3) := by decide +kernel
theorem dX4_withStray_19 : decode cX4_withStray 19 = .ok (.iaload, 1) := by decide +kernel
theorem dX4_withStray_20 : decode cX4_withStray 20 = .ok (.iadd, 1) := by decide +kernel
theorem dX4_withStray_21 : decode cX4_withStray 21 = .ok (.ireturn, 1) := by decide +kernel
theorem dX4_canPair_0 : decode cX4_canPair 0 = .ok (.iload_n 0, 1) := by decide +kernel
theorem dX4_canPair_1 : decode cX4_canPair 1 = .ok (.iconst 1, 1) := by decide +kernel
theorem dX4_canPair_2 : decode cX4_canPair 2 = .ok (.iadd, 1) := by decide +kernel
theorem dX4_canPair_3 : decode cX4_canPair 3 = .ok (.iload_n 1, 1) := by decide +kernel
theorem dX4_canPair_4 : decode cX4_canPair 4 = .ok (.if_icmp .ge 19, 3) := by decide +kernel
theorem dX4_canPair_7 : decode cX4_canPair 7 = .ok (.iload_n 0, 1) := by decide +kernel
theorem dX4_canPair_8 : decode cX4_canPair 8 = .ok (.iload_n 2, 1) := by decide +kernel
theorem dX4_canPair_9 : decode cX4_canPair 9 = .ok (.if_icmp .eq 14, 3) := by decide +kernel
theorem dX4_canPair_12 : decode cX4_canPair 12 = .ok (.iload_n 0, 1) := by decide +kernel
theorem dX4_canPair_13 : decode cX4_canPair 13 = .ok (.iconst 1, 1) := by decide +kernel
theorem dX4_canPair_14 : decode cX4_canPair 14 = .ok (.iadd, 1) := by decide +kernel
theorem dX4_canPair_15 : decode cX4_canPair 15 = .ok (.iload_n 2, 1) := by decide +kernel
theorem dX4_canPair_16 : decode cX4_canPair 16 = .ok (.if_icmp .eq 7, 3) := by decide +kernel
theorem dX4_canPair_19 : decode cX4_canPair 19 = .ok (.iconst 1, 1) := by decide +kernel
theorem dX4_canPair_20 : decode cX4_canPair 20 = .ok (.goto 4, 3) := by decide +kernel
theorem dX4_canPair_23 : decode cX4_canPair 23 = .ok (.iconst 0, 1) := by decide +kernel
theorem dX4_canPair_24 : decode cX4_canPair 24 = .ok (.ireturn, 1) := by decide +kernel
theorem dX4_layRest_0 : decode cX4_layRest 0 = .ok (.iconst 0, 1) := by decide +kernel
theorem dX4_layRest_1 : decode cX4_layRest 1 = .ok (.istore 5, 2) := by decide +kernel
theorem dX4_layRest_3 : decode cX4_layRest 3 = .ok (.iload 5, 2) := by decide +kernel
theorem dX4_layRest_5 : decode cX4_layRest 5 = .ok (.iload_n 3, 1) := by decide +kernel
theorem dX4_layRest_6 : decode cX4_layRest 6 = .ok (.iload_n 2, 1) := by decide +kernel
theorem dX4_layRest_7 : decode cX4_layRest 7 = .ok (.isub, 1) := by decide +kernel
theorem dX4_layRest_8 : decode cX4_layRest 8 = .ok (.if_icmp .gt 22, 3) := by decide +kernel
theorem dX4_layRest_11 : decode cX4_layRest 11 = .ok (.aload_n 0, 1) := by decide +kernel
theorem dX4_layRest_12 : decode cX4_layRest 12 = .ok (.getfield 44, 3) := by decide +kernel
theorem dX4_layRest_15 : decode cX4_layRest 15 = .ok (.iload_n 2, 1) := by decide +kernel
theorem dX4_layRest_16 : decode cX4_layRest 16 = .ok (.iload_n 3, 1) := by decide +kernel
theorem dX4_layRest_17 : decode cX4_layRest 17 = .ok (.iload 5, 2) := by decide +kernel
theorem dX4_layRest_19 : decode cX4_layRest 19 = .ok (.invokestatic 84, 3) := by decide +kernel
theorem dX4_layRest_22 : decode cX4_layRest 22 = .ok (.iconst 0, 1) := by decide +kernel
theorem dX4_layRest_23 : decode cX4_layRest 23 = .ok (.iastore, 1) := by decide +kernel
theorem dX4_layRest_24 : decode cX4_layRest 24 = .ok (.iinc 5 1, 3) := by decide +kernel
theorem dX4_layRest_27 : decode cX4_layRest 27 = .ok (.goto (-24), 3) := by decide +kernel
theorem dX4_layRest_30 : decode cX4_layRest 30 = .ok (.iload_n 3, 1) := by decide +kernel
theorem dX4_layRest_31 : decode cX4_layRest 31 = .ok (.iconst 1, 1) := by decide +kernel
theorem dX4_layRest_32 : decode cX4_layRest 32 = .ok (.isub, 1) := by decide +kernel
theorem dX4_layRest_33 : decode cX4_layRest 33 = .ok (.istore 5, 2) := by decide +kernel
theorem dX4_layRest_35 : decode cX4_layRest 35 = .ok (.iload 5, 2) := by decide +kernel
theorem dX4_layRest_37 : decode cX4_layRest 37 = .ok (.iload_n 2, 1) := by decide +kernel
theorem dX4_layRest_38 : decode cX4_layRest 38 = .ok (.if_icmp .lt 93, 3) := by decide +kernel
theorem dX4_layRest_41 : decode cX4_layRest 41 = .ok (.iconst 0, 1) := by decide +kernel
theorem dX4_layRest_42 : decode cX4_layRest 42 = .ok (.istore 6, 2) := by decide +kernel
theorem dX4_layRest_44 : decode cX4_layRest 44 = .ok (.iload 6, 2) := by decide +kernel
theorem dX4_layRest_46 : decode cX4_layRest 46 = .ok (.iload 5, 2) := by decide +kernel
theorem dX4_layRest_48 : decode cX4_layRest 48 = .ok (.iload_n 2, 1) := by decide +kernel
theorem dX4_layRest_49 : decode cX4_layRest 49 = .ok (.isub, 1) := by decide +kernel
theorem dX4_layRest_50 : decode cX4_layRest 50 = .ok (.if_icmp .gt 75, 3) := by decide +kernel
theorem dX4_layRest_53 : decode cX4_layRest 53 = .ok (.aload_n 0, 1) := by decide +kernel
theorem dX4_layRest_54 : decode cX4_layRest 54 = .ok (.aload_n 1, 1) := by decide +kernel
theorem dX4_layRest_55 : decode cX4_layRest 55 = .ok (.iload_n 2, 1) := by decide +kernel
theorem dX4_layRest_56 : decode cX4_layRest 56 = .ok (.iload 5, 2) := by decide +kernel
theorem dX4_layRest_58 : decode cX4_layRest 58 = .ok (.iload 6, 2) := by decide +kernel
theorem dX4_layRest_60 : decode cX4_layRest 60 = .ok (.invokevirtual 88, 3) := by decide +kernel
theorem dX4_layRest_63 : decode cX4_layRest 63 = .ok (.istore 7, 2) := by decide +kernel
theorem dX4_layRest_65 : decode cX4_layRest 65 = .ok (.iload 5, 2) := by decide +kernel
theorem dX4_layRest_67 : decode cX4_layRest 67 = .ok (.iload_n 3, 1) := by decide +kernel
theorem dX4_layRest_68 : decode cX4_layRest 68 = .ok (.iload 4, 2) := by decide +kernel
theorem dX4_layRest_70 : decode cX4_layRest 70 = .ok (.invokestatic 92, 3) := by decide +kernel
theorem dX4_layRest_73 : decode cX4_layRest 73 = .ok (.ifCond .eq 31, 3) := by decide +kernel
theorem dX4_layRest_76 : decode cX4_layRest 76 = .ok (.aload_n 0, 1) := by decide +kernel
theorem dX4_layRest_77 : decode cX4_layRest 77 = .ok (.aload_n 1, 1) := by decide +kernel
theorem dX4_layRest_78 : decode cX4_layRest 78 = .ok (.iload_n 2, 1) := by decide +kernel
theorem dX4_layRest_79 : decode cX4_layRest 79 = .ok (.iload 5, 2) := by decide +kernel
theorem dX4_layRest_81 : decode cX4_layRest 81 = .ok (.iload 6, 2) := by decide +kernel
theorem dX4_layRest_83 : decode cX4_layRest 83 = .ok (.invokevirtual 96, 3) := by decide +kernel
theorem dX4_layRest_86 : decode cX4_layRest 86 = .ok (.istore 8, 2) := by decide +kernel
theorem dX4_layRest_88 : decode cX4_layRest 88 = .ok (.iload 8, 2) := by decide +kernel
theorem dX4_layRest_90 : decode cX4_layRest 90 = .ok (.iload 7, 2) := by decide +kernel
theorem dX4_layRest_92 : decode cX4_layRest 92 = .ok (.if_icmp .gt 8, 3) := by decide +kernel
theorem dX4_layRest_95 : decode cX4_layRest 95 = .ok (.iload 8, 2) := by decide +kernel
theorem dX4_layRest_97 : decode cX4_layRest 97 = .ok (.goto 5, 3) := by decide +kernel
theorem dX4_layRest_100 : decode cX4_layRest 100 = .ok (.iload 7, 2) := by decide +kernel
theorem dX4_layRest_102 : decode cX4_layRest 102 = .ok (.istore 7, 2) := by decide +kernel
theorem dX4_layRest_104 : decode cX4_layRest 104 = .ok (.aload_n 0, 1) := by decide +kernel
theorem dX4_layRest_105 : decode cX4_layRest 105 = .ok (.getfield 44, 3) := by decide +kernel
theorem dX4_layRest_108 : decode cX4_layRest 108 = .ok (.iload_n 2, 1) := by decide +kernel
theorem dX4_layRest_109 : decode cX4_layRest 109 = .ok (.iload 5, 2) := by decide +kernel
theorem dX4_layRest_111 : decode cX4_layRest 111 = .ok (.iload 6, 2) := by decide +kernel
theorem dX4_layRest_113 : decode cX4_layRest 113 = .ok (.invokestatic 84, 3) := by decide +kernel
theorem dX4_layRest_116 : decode cX4_layRest 116 = .ok (.iload 7, 2) := by decide +kernel
theorem dX4_layRest_118 : decode cX4_layRest 118 = .ok (.iastore, 1) := by decide +kernel
theorem dX4_layRest_119 : decode cX4_layRest 119 = .ok (.iinc 6 1, 3) := by decide +kernel
theorem dX4_layRest_122 : decode cX4_layRest 122 = .ok (.goto (-78), 3) := by decide +kernel
theorem dX4_layRest_125 : decode cX4_layRest 125 = .ok (.iinc 5 (-1), 3) := by decide +kernel
theorem dX4_layRest_128 : decode cX4_layRest 128 = .ok (.goto (-93), 3) := by decide +kernel
theorem dX4_layRest_131 : decode cX4_layRest 131 = .ok (.aload_n 0, 1) := by decide +kernel
theorem dX4_layRest_132 : decode cX4_layRest 132 = .ok (.getfield 44, 3) := by decide +kernel
theorem dX4_layRest_135 : decode cX4_layRest 135 = .ok (.iload_n 2, 1) := by decide +kernel
theorem dX4_layRest_136 : decode cX4_layRest 136 = .ok (.iload_n 2, 1) := by decide +kernel
theorem dX4_layRest_137 : decode cX4_layRest 137 = .ok (.iconst 0, 1) := by decide +kernel
theorem dX4_layRest_138 : decode cX4_layRest 138 = .ok (.invokestatic 84, 3) := by decide +kernel
theorem dX4_layRest_141 : decode cX4_layRest 141 = .ok (.iaload, 1) := by decide +kernel
theorem dX4_layRest_142 : decode cX4_layRest 142 = .ok (.bipush 99, 2) := by decide +kernel
theorem dX4_layRest_144 : decode cX4_layRest 144 = .ok (.iadd, 1) := by decide +kernel
theorem dX4_layRest_145 : decode cX4_layRest 145 = .ok (.bipush 100, 2) := by decide +kernel
theorem dX4_layRest_147 : decode cX4_layRest 147 = .ok (.idiv, 1) := by decide +kernel
theorem dX4_layRest_148 : decode cX4_layRest 148 = .ok (.ireturn, 1) := by decide +kernel
theorem dX4_layCars_0 : decode cX4_layCars 0 = .ok (.iload_n 2, 1) := by decide +kernel
theorem dX4_layCars_1 : decode cX4_layCars 1 = .ok (.istore 4, 2) := by decide +kernel
theorem dX4_layCars_3 : decode cX4_layCars 3 = .ok (.iconst 0, 1) := by decide +kernel
theorem dX4_layCars_4 : decode cX4_layCars 4 = .ok (.istore 5, 2) := by decide +kernel
theorem dX4_layCars_6 : decode cX4_layCars 6 = .ok (.iload 4, 2) := by decide +kernel
theorem dX4_layCars_8 : decode cX4_layCars 8 = .ok (.iload_n 3, 1) := by decide +kernel
theorem dX4_layCars_9 : decode cX4_layCars 9 = .ok (.if_icmp .ge 98, 3) := by decide +kernel
theorem dX4_layCars_12 : decode cX4_layCars 12 = .ok (.iload 4, 2) := by decide +kernel
theorem dX4_layCars_14 : decode cX4_layCars 14 = .ok (.iload_n 3, 1) := by decide +kernel
theorem dX4_layCars_15 : decode cX4_layCars 15 = .ok (.iconst (-1), 1) := by decide +kernel
theorem dX4_layCars_16 : decode cX4_layCars 16 = .ok (.invokestatic 92, 3) := by decide +kernel
theorem dX4_layCars_19 : decode cX4_layCars 19 = .ok (.ifCond .eq 33, 3) := by decide +kernel
theorem dX4_layCars_22 : decode cX4_layCars 22 = .ok (.aload_n 0, 1) := by decide +kernel
theorem dX4_layCars_23 : decode cX4_layCars 23 = .ok (.aload_n 1, 1) := by decide +kernel
theorem dX4_layCars_24 : decode cX4_layCars 24 = .ok (.iload_n 2, 1) := by decide +kernel
theorem dX4_layCars_25 : decode cX4_layCars 25 = .ok (.iload 4, 2) := by decide +kernel
theorem dX4_layCars_27 : decode cX4_layCars 27 = .ok (.iload 5, 2) := by decide +kernel
theorem dX4_layCars_29 : decode cX4_layCars 29 = .ok (.invokevirtual 96, 3) := by decide +kernel
theorem dX4_layCars_32 : decode cX4_layCars 32 = .ok (.aload_n 0, 1) := by decide +kernel
theorem dX4_layCars_33 : decode cX4_layCars 33 = .ok (.getfield 44, 3) := by decide +kernel
theorem dX4_layCars_36 : decode cX4_layCars 36 = .ok (.iload_n 2, 1) := by decide +kernel
theorem dX4_layCars_37 : decode cX4_layCars 37 = .ok (.iload 4, 2) := by decide +kernel
theorem dX4_layCars_39 : decode cX4_layCars 39 = .ok (.iload 5, 2) := by decide +kernel
theorem dX4_layCars_41 : decode cX4_layCars 41 = .ok (.invokestatic 84, 3) := by decide +kernel
theorem dX4_layCars_44 : decode cX4_layCars 44 = .ok (.iaload, 1) := by decide +kernel
theorem dX4_layCars_45 : decode cX4_layCars 45 = .ok (.if_icmp .ne 7, 3) := by decide +kernel
theorem dX4_layCars_48 : decode cX4_layCars 48 = .ok (.iconst 1, 1) := by decide +kernel
theorem dX4_layCars_49 : decode cX4_layCars 49 = .ok (.goto 4, 3) := by decide +kernel
theorem dX4_layCars_52 : decode cX4_layCars 52 = .ok (.iconst 0, 1) := by decide +kernel
theorem dX4_layCars_53 : decode cX4_layCars 53 = .ok (.istore 6, 2) := by decide +kernel
theorem dX4_layCars_55 : decode cX4_layCars 55 = .ok (.iload 6, 2) := by decide +kernel
theorem dX4_layCars_57 : decode cX4_layCars 57 = .ok (.ifCond .eq 32, 3) := by decide +kernel
theorem dX4_layCars_60 : decode cX4_layCars 60 = .ok (.aload_n 0, 1) := by decide +kernel
theorem dX4_layCars_61 : decode cX4_layCars 61 = .ok (.getfield 56, 3) := by decide +kernel
theorem dX4_layCars_64 : decode cX4_layCars 64 = .ok (.aload_n 0, 1) := by decide +kernel
theorem dX4_layCars_65 : decode cX4_layCars 65 = .ok (.getfield 99, 3) := by decide +kernel
theorem dX4_layCars_68 : decode cX4_layCars 68 = .ok (.iload 4, 2) := by decide +kernel
theorem dX4_layCars_70 : decode cX4_layCars 70 = .ok (.iastore, 1) := by decide +kernel
theorem dX4_layCars_71 : decode cX4_layCars 71 = .ok (.aload_n 0, 1) := by decide +kernel
theorem dX4_layCars_72 : decode cX4_layCars 72 = .ok (.dup, 1) := by decide +kernel
theorem dX4_layCars_73 : decode cX4_layCars 73 = .ok (.getfield 99, 3) := by decide +kernel
theorem dX4_layCars_76 : decode cX4_layCars 76 = .ok (.iconst 1, 1) := by decide +kernel
theorem dX4_layCars_77 : decode cX4_layCars 77 = .ok (.iadd, 1) := by decide +kernel
theorem dX4_layCars_78 : decode cX4_layCars 78 = .ok (.putfield 99, 3) := by decide +kernel
theorem dX4_layCars_81 : decode cX4_layCars 81 = .ok (.iload 4, 2) := by decide +kernel
theorem dX4_layCars_83 : decode cX4_layCars 83 = .ok (.iconst 2, 1) := by decide +kernel
theorem dX4_layCars_84 : decode cX4_layCars 84 = .ok (.iadd, 1) := by decide +kernel
theorem dX4_layCars_85 : decode cX4_layCars 85 = .ok (.iload_n 2, 1) := by decide +kernel
theorem dX4_layCars_86 : decode cX4_layCars 86 = .ok (.isub, 1) := by decide +kernel
theorem dX4_layCars_87 : decode cX4_layCars 87 = .ok (.istore 5, 2) := by decide +kernel
theorem dX4_layCars_89 : decode cX4_layCars 89 = .ok (.iload 4, 2) := by decide +kernel
theorem dX4_layCars_91 : decode cX4_layCars 91 = .ok (.iload 6, 2) := by decide +kernel
theorem dX4_layCars_93 : decode cX4_layCars 93 = .ok (.ifCond .eq 7, 3) := by decide +kernel
theorem dX4_layCars_96 : decode cX4_layCars 96 = .ok (.iconst 2, 1) := by decide +kernel
theorem dX4_layCars_97 : decode cX4_layCars 97 = .ok (.goto 4, 3) := by decide +kernel
theorem dX4_layCars_100 : decode cX4_layCars 100 = .ok (.iconst 1, 1) := by decide +kernel
theorem dX4_layCars_101 : decode cX4_layCars 101 = .ok (.iadd, 1) := by decide +kernel
theorem dX4_layCars_102 : decode cX4_layCars 102 = .ok (.istore 4, 2) := by decide +kernel
theorem dX4_layCars_104 : decode cX4_layCars 104 = .ok (.goto (-98), 3) := by decide +kernel
theorem dX4_layCars_107 : decode cX4_layCars 107 = .ok (.return_, 1) := by decide +kernel
theorem dX4_lay_0 : decode cX4_lay 0 = .ok (.aload_n 1, 1) := by decide +kernel
theorem dX4_lay_1 : decode cX4_lay 1 = .ok (.iconst 0, 1) := by decide +kernel
theorem dX4_lay_2 : decode cX4_lay 2 = .ok (.iaload, 1) := by decide +kernel
theorem dX4_lay_3 : decode cX4_lay 3 = .ok (.istore_n 2, 1) := by decide +kernel
theorem dX4_lay_4 : decode cX4_lay 4 = .ok (.aload_n 0, 1) := by decide +kernel
theorem dX4_lay_5 : decode cX4_lay 5 = .ok (.iconst 0, 1) := by decide +kernel
theorem dX4_lay_6 : decode cX4_lay 6 = .ok (.putfield 102, 3) := by decide +kernel
theorem dX4_lay_9 : decode cX4_lay 9 = .ok (.aload_n 0, 1) := by decide +kernel
theorem dX4_lay_10 : decode cX4_lay 10 = .ok (.iconst 0, 1) := by decide +kernel
theorem dX4_lay_11 : decode cX4_lay 11 = .ok (.putfield 99, 3) := by decide +kernel
theorem dX4_lay_14 : decode cX4_lay 14 = .ok (.aload_n 0, 1) := by decide +kernel
theorem dX4_lay_15 : decode cX4_lay 15 = .ok (.iconst 0, 1) := by decide +kernel
theorem dX4_lay_16 : decode cX4_lay 16 = .ok (.putfield 105, 3) := by decide +kernel
theorem dX4_lay_19 : decode cX4_lay 19 = .ok (.iconst 0, 1) := by decide +kernel
theorem dX4_lay_20 : decode cX4_lay 20 = .ok (.istore_n 3, 1) := by decide +kernel
theorem dX4_lay_21 : decode cX4_lay 21 = .ok (.iload_n 3, 1) := by decide +kernel
theorem dX4_lay_22 : decode cX4_lay 22 = .ok (.iload_n 2, 1) := by decide +kernel
theorem dX4_lay_23 : decode cX4_lay 23 = .ok (.if_icmp .ge 74, 3) := by decide +kernel
theorem dX4_lay_26 : decode cX4_lay 26 = .ok (.aload_n 0, 1) := by decide +kernel
theorem dX4_lay_27 : decode cX4_lay 27 = .ok (.getfield 47, 3) := by decide +kernel
theorem dX4_lay_30 : decode cX4_lay 30 = .ok (.iload_n 3, 1) := by decide +kernel
theorem dX4_lay_31 : decode cX4_lay 31 = .ok (.aload_n 1, 1) := by decide +kernel
theorem dX4_lay_32 : decode cX4_lay 32 = .ok (.bipush 35, 2) := by decide +kernel
theorem dX4_lay_34 : decode cX4_lay 34 = .ok (.iload_n 3, 1) := by decide +kernel
theorem dX4_lay_35 : decode cX4_lay 35 = .ok (.iadd, 1) := by decide +kernel
theorem dX4_lay_36 : decode cX4_lay 36 = .ok (.iaload, 1) := by decide +kernel
theorem dX4_lay_37 : decode cX4_lay 37 = .ok (.iload_n 3, 1) := by decide +kernel
theorem dX4_lay_38 : decode cX4_lay 38 = .ok (.ifCond .ne 7, 3) := by decide +kernel
theorem dX4_lay_41 : decode cX4_lay 41 = .ok (.iconst 0, 1) := by decide +kernel
theorem dX4_lay_42 : decode cX4_lay 42 = .ok (.goto 11, 3) := by decide +kernel
theorem dX4_lay_45 : decode cX4_lay 45 = .ok (.aload_n 0, 1) := by decide +kernel
theorem dX4_lay_46 : decode cX4_lay 46 = .ok (.getfield 47, 3) := by decide +kernel
theorem dX4_lay_49 : decode cX4_lay 49 = .ok (.iload_n 3, 1) := by decide +kernel
theorem dX4_lay_50 : decode cX4_lay 50 = .ok (.iconst 1, 1) := by decide +kernel
theorem dX4_lay_51 : decode cX4_lay 51 = .ok (.isub, 1) := by decide +kernel
theorem dX4_lay_52 : decode cX4_lay 52 = .ok (.iaload, 1) := by decide +kernel
theorem dX4_lay_53 : decode cX4_lay 53 = .ok (.iadd, 1) := by decide +kernel
theorem dX4_lay_54 : decode cX4_lay 54 = .ok (.iastore, 1) := by decide +kernel
theorem dX4_lay_55 : decode cX4_lay 55 = .ok (.iload_n 3, 1) := by decide +kernel
theorem dX4_lay_56 : decode cX4_lay 56 = .ok (.ifCond .eq 15, 3) := by decide +kernel
theorem dX4_lay_59 : decode cX4_lay 59 = .ok (.aload_n 1, 1) := by decide +kernel
theorem dX4_lay_60 : decode cX4_lay 60 = .ok (.bipush 35, 2) := by decide +kernel
theorem dX4_lay_62 : decode cX4_lay 62 = .ok (.iload_n 3, 1) := by decide +kernel
theorem dX4_lay_63 : decode cX4_lay 63 = .ok (.iadd, 1) := by decide +kernel
theorem dX4_lay_64 : decode cX4_lay 64 = .ok (.iaload, 1) := by decide +kernel
theorem dX4_lay_65 : decode cX4_lay 65 = .ok (.aload_n 1, 1) := by decide +kernel
theorem dX4_lay_66 : decode cX4_lay 66 = .ok (.iconst 4, 1) := by decide +kernel
theorem dX4_lay_67 : decode cX4_lay 67 = .ok (.iaload, 1) := by decide +kernel
theorem dX4_lay_68 : decode cX4_lay 68 = .ok (.if_icmp .lt 23, 3) := by decide +kernel
theorem dX4_lay_71 : decode cX4_lay 71 = .ok (.aload_n 0, 1) := by decide +kernel
theorem dX4_lay_72 : decode cX4_lay 72 = .ok (.getfield 50, 3) := by decide +kernel
theorem dX4_lay_75 : decode cX4_lay 75 = .ok (.aload_n 0, 1) := by decide +kernel
theorem dX4_lay_76 : decode cX4_lay 76 = .ok (.getfield 102, 3) := by decide +kernel
theorem dX4_lay_79 : decode cX4_lay 79 = .ok (.iload_n 3, 1) := by decide +kernel
theorem dX4_lay_80 : decode cX4_lay 80 = .ok (.iastore, 1) := by decide +kernel
theorem dX4_lay_81 : decode cX4_lay 81 = .ok (.aload_n 0, 1) := by decide +kernel
theorem dX4_lay_82 : decode cX4_lay 82 = .ok (.dup, 1) := by decide +kernel
theorem dX4_lay_83 : decode cX4_lay 83 = .ok (.getfield 102, 3) := by decide +kernel
theorem dX4_lay_86 : decode cX4_lay 86 = .ok (.iconst 1, 1) := by decide +kernel
theorem dX4_lay_87 : decode cX4_lay 87 = .ok (.iadd, 1) := by decide +kernel
theorem dX4_lay_88 : decode cX4_lay 88 = .ok (.putfield 102, 3) := by decide +kernel
theorem dX4_lay_91 : decode cX4_lay 91 = .ok (.iinc 3 1, 3) := by decide +kernel
theorem dX4_lay_94 : decode cX4_lay 94 = .ok (.goto (-73), 3) := by decide +kernel
theorem dX4_lay_97 : decode cX4_lay 97 = .ok (.aload_n 0, 1) := by decide +kernel
theorem dX4_lay_98 : decode cX4_lay 98 = .ok (.getfield 50, 3) := by decide +kernel
theorem dX4_lay_101 : decode cX4_lay 101 = .ok (.aload_n 0, 1) := by decide +kernel
theorem dX4_lay_102 : decode cX4_lay 102 = .ok (.getfield 102, 3) := by decide +kernel
theorem dX4_lay_105 : decode cX4_lay 105 = .ok (.iload_n 2, 1) := by decide +kernel
theorem dX4_lay_106 : decode cX4_lay 106 = .ok (.iastore, 1) := by decide +kernel
theorem dX4_lay_107 : decode cX4_lay 107 = .ok (.iconst 0, 1) := by decide +kernel
theorem dX4_lay_108 : decode cX4_lay 108 = .ok (.istore_n 3, 1) := by decide +kernel
theorem dX4_lay_109 : decode cX4_lay 109 = .ok (.iload_n 3, 1) := by decide +kernel
theorem dX4_lay_110 : decode cX4_lay 110 = .ok (.aload_n 0, 1) := by decide +kernel
theorem dX4_lay_111 : decode cX4_lay 111 = .ok (.getfield 102, 3) := by decide +kernel
theorem dX4_lay_114 : decode cX4_lay 114 = .ok (.if_icmp .ge 69, 3) := by decide +kernel
theorem dX4_lay_117 : decode cX4_lay 117 = .ok (.aload_n 0, 1) := by decide +kernel
theorem dX4_lay_118 : decode cX4_lay 118 = .ok (.getfield 53, 3) := by decide +kernel
theorem dX4_lay_121 : decode cX4_lay 121 = .ok (.iload_n 3, 1) := by decide +kernel
theorem dX4_lay_122 : decode cX4_lay 122 = .ok (.aload_n 0, 1) := by decide +kernel
theorem dX4_lay_123 : decode cX4_lay 123 = .ok (.aload_n 1, 1) := by decide +kernel
theorem dX4_lay_124 : decode cX4_lay 124 = .ok (.aload_n 0, 1) := by decide +kernel
theorem dX4_lay_125 : decode cX4_lay 125 = .ok (.getfield 50, 3) := by decide +kernel
theorem dX4_lay_128 : decode cX4_lay 128 = .ok (.iload_n 3, 1) := by decide +kernel
theorem dX4_lay_129 : decode cX4_lay 129 = .ok (.iaload, 1) := by decide +kernel
theorem dX4_lay_130 : decode cX4_lay 130 = .ok (.aload_n 0, 1) := by decide +kernel
theorem dX4_lay_131 : decode cX4_lay 131 = .ok (.getfield 50, 3) := by decide +kernel
theorem dX4_lay_134 : decode cX4_lay 134 = .ok (.iload_n 3, 1) := by decide +kernel
theorem dX4_lay_135 : decode cX4_lay 135 = .ok (.iconst 1, 1) := by decide +kernel
theorem dX4_lay_136 : decode cX4_lay 136 = .ok (.iadd, 1) := by decide +kernel
theorem dX4_lay_137 : decode cX4_lay 137 = .ok (.iaload, 1) := by decide +kernel
theorem dX4_lay_138 : decode cX4_lay 138 = .ok (.iconst (-1), 1) := by decide +kernel
theorem dX4_lay_139 : decode cX4_lay 139 = .ok (.invokevirtual 108, 3) := by decide +kernel
theorem dX4_lay_142 : decode cX4_lay 142 = .ok (.iastore, 1) := by decide +kernel
theorem dX4_lay_143 : decode cX4_lay 143 = .ok (.aload_n 0, 1) := by decide +kernel
theorem dX4_lay_144 : decode cX4_lay 144 = .ok (.aload_n 1, 1) := by decide +kernel
theorem dX4_lay_145 : decode cX4_lay 145 = .ok (.aload_n 0, 1) := by decide +kernel
theorem dX4_lay_146 : decode cX4_lay 146 = .ok (.getfield 50, 3) := by decide +kernel
theorem dX4_lay_149 : decode cX4_lay 149 = .ok (.iload_n 3, 1) := by decide +kernel
theorem dX4_lay_150 : decode cX4_lay 150 = .ok (.iaload, 1) := by decide +kernel
theorem dX4_lay_151 : decode cX4_lay 151 = .ok (.aload_n 0, 1) := by decide +kernel
theorem dX4_lay_152 : decode cX4_lay 152 = .ok (.getfield 50, 3) := by decide +kernel
theorem dX4_lay_155 : decode cX4_lay 155 = .ok (.iload_n 3, 1) := by decide +kernel
theorem dX4_lay_156 : decode cX4_lay 156 = .ok (.iconst 1, 1) := by decide +kernel
theorem dX4_lay_157 : decode cX4_lay 157 = .ok (.iadd, 1) := by decide +kernel
theorem dX4_lay_158 : decode cX4_lay 158 = .ok (.iaload, 1) := by decide +kernel
theorem dX4_lay_159 : decode cX4_lay 159 = .ok (.invokevirtual 111, 3) := by decide +kernel
theorem dX4_lay_162 : decode cX4_lay 162 = .ok (.aload_n 0, 1) := by decide +kernel
theorem dX4_lay_163 : decode cX4_lay 163 = .ok (.dup, 1) := by decide +kernel
theorem dX4_lay_164 : decode cX4_lay 164 = .ok (.getfield 105, 3) := by decide +kernel
theorem dX4_lay_167 : decode cX4_lay 167 = .ok (.aload_n 0, 1) := by decide +kernel
theorem dX4_lay_168 : decode cX4_lay 168 = .ok (.getfield 53, 3) := by decide +kernel
theorem dX4_lay_171 : decode cX4_lay 171 = .ok (.iload_n 3, 1) := by decide +kernel
theorem dX4_lay_172 : decode cX4_lay 172 = .ok (.iaload, 1) := by decide +kernel
theorem dX4_lay_173 : decode cX4_lay 173 = .ok (.iadd, 1) := by decide +kernel
theorem dX4_lay_174 : decode cX4_lay 174 = .ok (.putfield 105, 3) := by decide +kernel
theorem dX4_lay_177 : decode cX4_lay 177 = .ok (.iinc 3 1, 3) := by decide +kernel
theorem dX4_lay_180 : decode cX4_lay 180 = .ok (.goto (-71), 3) := by decide +kernel
theorem dX4_lay_183 : decode cX4_lay 183 = .ok (.return_, 1) := by decide +kernel
theorem dX4_carWeight_0 : decode cX4_carWeight 0 = .ok (.aload_n 0, 1) := by decide +kernel
theorem dX4_carWeight_1 : decode cX4_carWeight 1 = .ok (.bipush 65, 2) := by decide +kernel
theorem dX4_carWeight_3 : decode cX4_carWeight 3 = .ok (.iload_n 1, 1) := by decide +kernel
theorem dX4_carWeight_4 : decode cX4_carWeight 4 = .ok (.iadd, 1) := by decide +kernel
theorem dX4_carWeight_5 : decode cX4_carWeight 5 = .ok (.iaload, 1) := by decide +kernel
theorem dX4_carWeight_6 : decode cX4_carWeight 6 = .ok (.aload_n 0, 1) := by decide +kernel
theorem dX4_carWeight_7 : decode cX4_carWeight 7 = .ok (.bipush 65, 2) := by decide +kernel
theorem dX4_carWeight_9 : decode cX4_carWeight 9 = .ok (.iload_n 1, 1) := by decide +kernel
theorem dX4_carWeight_10 : decode cX4_carWeight 10 = .ok (.iadd, 1) := by decide +kernel
theorem dX4_carWeight_11 : decode cX4_carWeight 11 = .ok (.iconst 1, 1) := by decide +kernel
theorem dX4_carWeight_12 : decode cX4_carWeight 12 = .ok (.iadd, 1) := by decide +kernel
theorem dX4_carWeight_13 : decode cX4_carWeight 13 = .ok (.iaload, 1) := by decide +kernel
theorem dX4_carWeight_14 : decode cX4_carWeight 14 = .ok (.iadd, 1) := by decide +kernel
theorem dX4_carWeight_15 : decode cX4_carWeight 15 = .ok (.ireturn, 1) := by decide +kernel
theorem dX4_allWeight_0 : decode cX4_allWeight 0 = .ok (.iconst 0, 1) := by decide +kernel
theorem dX4_allWeight_1 : decode cX4_allWeight 1 = .ok (.istore_n 2, 1) := by decide +kernel
theorem dX4_allWeight_2 : decode cX4_allWeight 2 = .ok (.iconst 0, 1) := by decide +kernel
theorem dX4_allWeight_3 : decode cX4_allWeight 3 = .ok (.istore_n 3, 1) := by decide +kernel
theorem dX4_allWeight_4 : decode cX4_allWeight 4 = .ok (.iload_n 3, 1) := by decide +kernel
theorem dX4_allWeight_5 : decode cX4_allWeight 5 = .ok (.aload_n 0, 1) := by decide +kernel
theorem dX4_allWeight_6 : decode cX4_allWeight 6 = .ok (.getfield 99, 3) := by decide +kernel
theorem dX4_allWeight_9 : decode cX4_allWeight 9 = .ok (.if_icmp .ge 22, 3) := by decide +kernel
theorem dX4_allWeight_12 : decode cX4_allWeight 12 = .ok (.iload_n 2, 1) := by decide +kernel
theorem dX4_allWeight_13 : decode cX4_allWeight 13 = .ok (.aload_n 1, 1) := by decide +kernel
theorem dX4_allWeight_14 : decode cX4_allWeight 14 = .ok (.aload_n 0, 1) := by decide +kernel
theorem dX4_allWeight_15 : decode cX4_allWeight 15 = .ok (.getfield 56, 3) := by decide +kernel
theorem dX4_allWeight_18 : decode cX4_allWeight 18 = .ok (.iload_n 3, 1) := by decide +kernel
theorem dX4_allWeight_19 : decode cX4_allWeight 19 = .ok (.iaload, 1) := by decide +kernel
theorem dX4_allWeight_20 : decode cX4_allWeight 20 = .ok (.invokestatic 115, 3) := by decide +kernel
theorem dX4_allWeight_23 : decode cX4_allWeight 23 = .ok (.iadd, 1) := by decide +kernel
theorem dX4_allWeight_24 : decode cX4_allWeight 24 = .ok (.istore_n 2, 1) := by decide +kernel
theorem dX4_allWeight_25 : decode cX4_allWeight 25 = .ok (.iinc 3 1, 3) := by decide +kernel
theorem dX4_allWeight_28 : decode cX4_allWeight 28 = .ok (.goto (-24), 3) := by decide +kernel
theorem dX4_allWeight_31 : decode cX4_allWeight 31 = .ok (.iload_n 2, 1) := by decide +kernel
theorem dX4_allWeight_32 : decode cX4_allWeight 32 = .ok (.ireturn, 1) := by decide +kernel
theorem dX4_trainOf_0 : decode cX4_trainOf 0 = .ok (.iconst 0, 1) := by decide +kernel
theorem dX4_trainOf_1 : decode cX4_trainOf 1 = .ok (.istore_n 2, 1) := by decide +kernel
theorem dX4_trainOf_2 : decode cX4_trainOf 2 = .ok (.aload_n 0, 1) := by decide +kernel
theorem dX4_trainOf_3 : decode cX4_trainOf 3 = .ok (.getfield 50, 3) := by decide +kernel
theorem dX4_trainOf_6 : decode cX4_trainOf 6 = .ok (.iload_n 2, 1) := by decide +kernel
theorem dX4_trainOf_7 : decode cX4_trainOf 7 = .ok (.iconst 1, 1) := by decide +kernel
theorem dX4_trainOf_8 : decode cX4_trainOf 8 = .ok (.iadd, 1) := by decide +kernel
theorem dX4_trainOf_9 : decode cX4_trainOf 9 = .ok (.iaload, 1) := by decide +kernel
theorem dX4_trainOf_10 : decode cX4_trainOf 10 = .ok (.iload_n 1, 1) := by decide +kernel
theorem dX4_trainOf_11 : decode cX4_trainOf 11 = .ok (.if_icmp .gt 9, 3) := by decide +kernel
theorem dX4_trainOf_14 : decode cX4_trainOf 14 = .ok (.iinc 2 1, 3) := by decide +kernel
theorem dX4_trainOf_17 : decode cX4_trainOf 17 = .ok (.goto (-15), 3) := by decide +kernel
theorem dX4_trainOf_20 : decode cX4_trainOf 20 = .ok (.iload_n 2, 1) := by decide +kernel
theorem dX4_trainOf_21 : decode cX4_trainOf 21 = .ok (.ireturn, 1) := by decide +kernel
theorem dX4_carOf_0 : decode cX4_carOf 0 = .ok (.iconst (-1), 1) := by decide +kernel
theorem dX4_carOf_1 : decode cX4_carOf 1 = .ok (.istore_n 2, 1) := by decide +kernel
theorem dX4_carOf_2 : decode cX4_carOf 2 = .ok (.iconst 0, 1) := by decide +kernel
theorem dX4_carOf_3 : decode cX4_carOf 3 = .ok (.istore_n 3, 1) := by decide +kernel
theorem dX4_carOf_4 : decode cX4_carOf 4 = .ok (.iload_n 3, 1) := by decide +kernel
theorem dX4_carOf_5 : decode cX4_carOf 5 = .ok (.aload_n 0, 1) := by decide +kernel
theorem dX4_carOf_6 : decode cX4_carOf 6 = .ok (.getfield 99, 3) := by decide +kernel
theorem dX4_carOf_9 : decode cX4_carOf 9 = .ok (.if_icmp .ge 32, 3) := by decide +kernel
theorem dX4_carOf_12 : decode cX4_carOf 12 = .ok (.iload_n 1, 1) := by decide +kernel
theorem dX4_carOf_13 : decode cX4_carOf 13 = .ok (.aload_n 0, 1) := by decide +kernel
theorem dX4_carOf_14 : decode cX4_carOf 14 = .ok (.getfield 56, 3) := by decide +kernel
theorem dX4_carOf_17 : decode cX4_carOf 17 = .ok (.iload_n 3, 1) := by decide +kernel
theorem dX4_carOf_18 : decode cX4_carOf 18 = .ok (.iaload, 1) := by decide +kernel
theorem dX4_carOf_19 : decode cX4_carOf 19 = .ok (.isub, 1) := by decide +kernel
theorem dX4_carOf_20 : decode cX4_carOf 20 = .ok (.i2l, 1) := by decide +kernel
theorem dX4_carOf_21 : decode cX4_carOf 21 = .ok (.lconst 0, 1) := by decide +kernel
theorem dX4_carOf_22 : decode cX4_carOf 22 = .ok (.lconst 1, 1) := by decide +kernel
theorem dX4_carOf_23 : decode cX4_carOf 23 = .ok (.invokestatic 118, 3) := by decide +kernel
theorem dX4_carOf_26 : decode cX4_carOf 26 = .ok (.ifCond .eq 7, 3) := by decide +kernel
theorem dX4_carOf_29 : decode cX4_carOf 29 = .ok (.iload_n 3, 1) := by decide +kernel
theorem dX4_carOf_30 : decode cX4_carOf 30 = .ok (.goto 4, 3) := by decide +kernel
theorem dX4_carOf_33 : decode cX4_carOf 33 = .ok (.iload_n 2, 1) := by decide +kernel
theorem dX4_carOf_34 : decode cX4_carOf 34 = .ok (.istore_n 2, 1) := by decide +kernel
theorem dX4_carOf_35 : decode cX4_carOf 35 = .ok (.iinc 3 1, 3) := by decide +kernel
theorem dX4_carOf_38 : decode cX4_carOf 38 = .ok (.goto (-34), 3) := by decide +kernel
theorem dX4_carOf_41 : decode cX4_carOf 41 = .ok (.iload_n 2, 1) := by decide +kernel
theorem dX4_carOf_42 : decode cX4_carOf 42 = .ok (.ireturn, 1) := by decide +kernel
theorem dX4_rollIn_0 : decode cX4_rollIn 0 = .ok (.aload_n 0, 1) := by decide +kernel
theorem dX4_rollIn_1 : decode cX4_rollIn 1 = .ok (.iconst 0, 1) := by decide +kernel
theorem dX4_rollIn_2 : decode cX4_rollIn 2 = .ok (.iaload, 1) := by decide +kernel
theorem dX4_rollIn_3 : decode cX4_rollIn 3 = .ok (.istore_n 3, 1) := by decide +kernel
theorem dX4_rollIn_4 : decode cX4_rollIn 4 = .ok (.aload_n 0, 1) := by decide +kernel
theorem dX4_rollIn_5 : decode cX4_rollIn 5 = .ok (.bipush 35, 2) := by decide +kernel
theorem dX4_rollIn_7 : decode cX4_rollIn 7 = .ok (.iload_n 3, 1) := by decide +kernel
theorem dX4_rollIn_8 : decode cX4_rollIn 8 = .ok (.iadd, 1) := by decide +kernel
theorem dX4_rollIn_9 : decode cX4_rollIn 9 = .ok (.iload_n 1, 1) := by decide +kernel
theorem dX4_rollIn_10 : decode cX4_rollIn 10 = .ok (.iastore, 1) := by decide +kernel
theorem dX4_rollIn_11 : decode cX4_rollIn 11 = .ok (.aload_n 0, 1) := by decide +kernel
theorem dX4_rollIn_12 : decode cX4_rollIn 12 = .ok (.bipush 65, 2) := by decide +kernel
theorem dX4_rollIn_14 : decode cX4_rollIn 14 = .ok (.iload_n 3, 1) := by decide +kernel
theorem dX4_rollIn_15 : decode cX4_rollIn 15 = .ok (.iadd, 1) := by decide +kernel
theorem dX4_rollIn_16 : decode cX4_rollIn 16 = .ok (.iload_n 2, 1) := by decide +kernel
theorem dX4_rollIn_17 : decode cX4_rollIn 17 = .ok (.iastore, 1) := by decide +kernel
theorem dX4_rollIn_18 : decode cX4_rollIn 18 = .ok (.aload_n 0, 1) := by decide +kernel
theorem dX4_rollIn_19 : decode cX4_rollIn 19 = .ok (.iconst 0, 1) := by decide +kernel
theorem dX4_rollIn_20 : decode cX4_rollIn 20 = .ok (.dup2, 1) := by decide +kernel
theorem dX4_rollIn_21 : decode cX4_rollIn 21 = .ok (.iaload, 1) := by decide +kernel
theorem dX4_rollIn_22 : decode cX4_rollIn 22 = .ok (.iconst 1, 1) := by decide +kernel
theorem dX4_rollIn_23 : decode cX4_rollIn 23 = .ok (.iadd, 1) := by decide +kernel
theorem dX4_rollIn_24 : decode cX4_rollIn 24 = .ok (.iastore, 1) := by decide +kernel
theorem dX4_rollIn_25 : decode cX4_rollIn 25 = .ok (.iload_n 3, 1) := by decide +kernel
theorem dX4_rollIn_26 : decode cX4_rollIn 26 = .ok (.ireturn, 1) := by decide +kernel
theorem dX4_cutOut_0 : decode cX4_cutOut 0 = .ok (.aload_n 0, 1) := by decide +kernel
theorem dX4_cutOut_1 : decode cX4_cutOut 1 = .ok (.bipush 35, 2) := by decide +kernel
theorem dX4_cutOut_3 : decode cX4_cutOut 3 = .ok (.iload_n 1, 1) := by decide +kernel
theorem dX4_cutOut_4 : decode cX4_cutOut 4 = .ok (.iadd, 1) := by decide +kernel
theorem dX4_cutOut_5 : decode cX4_cutOut 5 = .ok (.iload_n 2, 1) := by decide +kernel
theorem dX4_cutOut_6 : decode cX4_cutOut 6 = .ok (.iadd, 1) := by decide +kernel
theorem dX4_cutOut_7 : decode cX4_cutOut 7 = .ok (.aload_n 0, 1) := by decide +kernel
theorem dX4_cutOut_8 : decode cX4_cutOut 8 = .ok (.bipush 35, 2) := by decide +kernel
theorem dX4_cutOut_10 : decode cX4_cutOut 10 = .ok (.iload_n 1, 1) := by decide +kernel
theorem dX4_cutOut_11 : decode cX4_cutOut 11 = .ok (.iadd, 1) := by decide +kernel
theorem dX4_cutOut_12 : decode cX4_cutOut 12 = .ok (.aload_n 0, 1) := by decide +kernel
theorem dX4_cutOut_13 : decode cX4_cutOut 13 = .ok (.iconst 0, 1) := by decide +kernel
theorem dX4_cutOut_14 : decode cX4_cutOut 14 = .ok (.iaload, 1) := by decide +kernel
theorem dX4_cutOut_15 : decode cX4_cutOut 15 = .ok (.iload_n 1, 1) := by decide +kernel
theorem dX4_cutOut_16 : decode cX4_cutOut 16 = .ok (.isub, 1) := by decide +kernel
theorem dX4_cutOut_17 : decode cX4_cutOut 17 = .ok (.iload_n 2, 1) := by decide +kernel
theorem dX4_cutOut_18 : decode cX4_cutOut 18 = .ok (.isub, 1) := by decide +kernel
theorem dX4_cutOut_19 : decode cX4_cutOut 19 = .ok (.invokestatic 68, 3) := by decide +kernel
theorem dX4_cutOut_22 : decode cX4_cutOut 22 = .ok (.aload_n 0, 1) := by decide +kernel
theorem dX4_cutOut_23 : decode cX4_cutOut 23 = .ok (.bipush 65, 2) := by decide +kernel
theorem dX4_cutOut_25 : decode cX4_cutOut 25 = .ok (.iload_n 1, 1) := by decide +kernel
theorem dX4_cutOut_26 : decode cX4_cutOut 26 = .ok (.iadd, 1) := by decide +kernel
theorem dX4_cutOut_27 : decode cX4_cutOut 27 = .ok (.iload_n 2, 1) := by decide +kernel
theorem dX4_cutOut_28 : decode cX4_cutOut 28 = .ok (.iadd, 1) := by decide +kernel
theorem dX4_cutOut_29 : decode cX4_cutOut 29 = .ok (.aload_n 0, 1) := by decide +kernel
theorem dX4_cutOut_30 : decode cX4_cutOut 30 = .ok (.bipush 65, 2) := by decide +kernel
theorem dX4_cutOut_32 : decode cX4_cutOut 32 = .ok (.iload_n 1, 1) := by decide +kernel
theorem dX4_cutOut_33 : decode cX4_cutOut 33 = .ok (.iadd, 1) := by decide +kernel
theorem dX4_cutOut_34 : decode cX4_cutOut 34 = .ok (.aload_n 0, 1) := by decide +kernel
theorem dX4_cutOut_35 : decode cX4_cutOut 35 = .ok (.iconst 0, 1) := by decide +kernel
theorem dX4_cutOut_36 : decode cX4_cutOut 36 = .ok (.iaload, 1) := by decide +kernel
theorem dX4_cutOut_37 : decode cX4_cutOut 37 = .ok (.iload_n 1, 1) := by decide +kernel
theorem dX4_cutOut_38 : decode cX4_cutOut 38 = .ok (.isub, 1) := by decide +kernel
theorem dX4_cutOut_39 : decode cX4_cutOut 39 = .ok (.iload_n 2, 1) := by decide +kernel
theorem dX4_cutOut_40 : decode cX4_cutOut 40 = .ok (.isub, 1) := by decide +kernel
theorem dX4_cutOut_41 : decode cX4_cutOut 41 = .ok (.invokestatic 68, 3) := by decide +kernel
theorem dX4_cutOut_44 : decode cX4_cutOut 44 = .ok (.aload_n 0, 1) := by decide +kernel
theorem dX4_cutOut_45 : decode cX4_cutOut 45 = .ok (.iconst 0, 1) := by decide +kernel
theorem dX4_cutOut_46 : decode cX4_cutOut 46 = .ok (.dup2, 1) := by decide +kernel
theorem dX4_cutOut_47 : decode cX4_cutOut 47 = .ok (.iaload, 1) := by decide +kernel
theorem dX4_cutOut_48 : decode cX4_cutOut 48 = .ok (.iload_n 2, 1) := by decide +kernel
theorem dX4_cutOut_49 : decode cX4_cutOut 49 = .ok (.isub, 1) := by decide +kernel
theorem dX4_cutOut_50 : decode cX4_cutOut 50 = .ok (.iastore, 1) := by decide +kernel
theorem dX4_cutOut_51 : decode cX4_cutOut 51 = .ok (.return_, 1) := by decide +kernel
theorem dX4_strikeIn_0 : decode cX4_strikeIn 0 = .ok (.aload_n 0, 1) := by decide +kernel
theorem dX4_strikeIn_1 : decode cX4_strikeIn 1 = .ok (.bipush 35, 2) := by decide +kernel
theorem dX4_strikeIn_3 : decode cX4_strikeIn 3 = .ok (.iload_n 1, 1) := by decide +kernel
theorem dX4_strikeIn_4 : decode cX4_strikeIn 4 = .ok (.iadd, 1) := by decide +kernel
theorem dX4_strikeIn_5 : decode cX4_strikeIn 5 = .ok (.iaload, 1) := by decide +kernel
theorem dX4_strikeIn_6 : decode cX4_strikeIn 6 = .ok (.istore_n 2, 1) := by decide +kernel
theorem dX4_strikeIn_7 : decode cX4_strikeIn 7 = .ok (.aload_n 0, 1) := by decide +kernel
theorem dX4_strikeIn_8 : decode cX4_strikeIn 8 = .ok (.iload_n 1, 1) := by decide +kernel
theorem dX4_strikeIn_9 : decode cX4_strikeIn 9 = .ok (.iconst 1, 1) := by decide +kernel
theorem dX4_strikeIn_10 : decode cX4_strikeIn 10 = .ok (.invokestatic 122, 3) := by decide +kernel
theorem dX4_strikeIn_13 : decode cX4_strikeIn 13 = .ok (.iload_n 1, 1) := by decide +kernel
theorem dX4_strikeIn_14 : decode cX4_strikeIn 14 = .ok (.aload_n 0, 1) := by decide +kernel
theorem dX4_strikeIn_15 : decode cX4_strikeIn 15 = .ok (.iconst 0, 1) := by decide +kernel
theorem dX4_strikeIn_16 : decode cX4_strikeIn 16 = .ok (.iaload, 1) := by decide +kernel
theorem dX4_strikeIn_17 : decode cX4_strikeIn 17 = .ok (.if_icmp .ge 30, 3) := by decide +kernel
theorem dX4_strikeIn_20 : decode cX4_strikeIn 20 = .ok (.aload_n 0, 1) := by decide +kernel
theorem dX4_strikeIn_21 : decode cX4_strikeIn 21 = .ok (.bipush 35, 2) := by decide +kernel
theorem dX4_strikeIn_23 : decode cX4_strikeIn 23 = .ok (.iload_n 1, 1) := by decide +kernel
theorem dX4_strikeIn_24 : decode cX4_strikeIn 24 = .ok (.iadd, 1) := by decide +kernel
theorem dX4_strikeIn_25 : decode cX4_strikeIn 25 = .ok (.iaload, 1) := by decide +kernel
theorem dX4_strikeIn_26 : decode cX4_strikeIn 26 = .ok (.iload_n 2, 1) := by decide +kernel
theorem dX4_strikeIn_27 : decode cX4_strikeIn 27 = .ok (.iadd, 1) := by decide +kernel
theorem dX4_strikeIn_28 : decode cX4_strikeIn 28 = .ok (.istore_n 3, 1) := by decide +kernel
theorem dX4_strikeIn_29 : decode cX4_strikeIn 29 = .ok (.aload_n 0, 1) := by decide +kernel
theorem dX4_strikeIn_30 : decode cX4_strikeIn 30 = .ok (.bipush 35, 2) := by decide +kernel
theorem dX4_strikeIn_32 : decode cX4_strikeIn 32 = .ok (.iload_n 1, 1) := by decide +kernel
theorem dX4_strikeIn_33 : decode cX4_strikeIn 33 = .ok (.iadd, 1) := by decide +kernel
theorem dX4_strikeIn_34 : decode cX4_strikeIn 34 = .ok (.iload_n 3, 1) := by decide +kernel
theorem dX4_strikeIn_35 : decode cX4_strikeIn 35 = .ok (.bipush 60, 2) := by decide +kernel
theorem dX4_strikeIn_37 : decode cX4_strikeIn 37 = .ok (.if_icmp .le 8, 3) := by decide +kernel
theorem dX4_strikeIn_40 : decode cX4_strikeIn 40 = .ok (.bipush 60, 2) := by decide +kernel
theorem dX4_strikeIn_42 : decode cX4_strikeIn 42 = .ok (.goto 4, 3) := by decide +kernel
theorem dX4_strikeIn_45 : decode cX4_strikeIn 45 = .ok (.iload_n 3, 1) := by decide +kernel
theorem dX4_strikeIn_46 : decode cX4_strikeIn 46 = .ok (.iastore, 1) := by decide +kernel
theorem dX4_strikeIn_47 : decode cX4_strikeIn 47 = .ok (.aload_n 0, 1) := by decide +kernel
theorem dX4_strikeIn_48 : decode cX4_strikeIn 48 = .ok (.iconst 0, 1) := by decide +kernel
theorem dX4_strikeIn_49 : decode cX4_strikeIn 49 = .ok (.iaload, 1) := by decide +kernel
theorem dX4_strikeIn_50 : decode cX4_strikeIn 50 = .ok (.ireturn, 1) := by decide +kernel
theorem dX4_leaveIn_0 : decode cX4_leaveIn 0 = .ok (.aload_n 0, 1) := by decide +kernel
theorem dX4_leaveIn_1 : decode cX4_leaveIn 1 = .ok (.aload_n 1, 1) := by decide +kernel
theorem dX4_leaveIn_2 : decode cX4_leaveIn 2 = .ok (.invokevirtual 125, 3) := by decide +kernel
theorem dX4_leaveIn_5 : decode cX4_leaveIn 5 = .ok (.aload_n 0, 1) := by decide +kernel
theorem dX4_leaveIn_6 : decode cX4_leaveIn 6 = .ok (.getfield 50, 3) := by decide +kernel
theorem dX4_leaveIn_9 : decode cX4_leaveIn 9 = .ok (.iconst 1, 1) := by decide +kernel
theorem dX4_leaveIn_10 : decode cX4_leaveIn 10 = .ok (.iaload, 1) := by decide +kernel
theorem dX4_leaveIn_11 : decode cX4_leaveIn 11 = .ok (.istore_n 2, 1) := by decide +kernel
theorem dX4_leaveIn_12 : decode cX4_leaveIn 12 = .ok (.iconst 0, 1) := by decide +kernel
theorem dX4_leaveIn_13 : decode cX4_leaveIn 13 = .ok (.istore_n 3, 1) := by decide +kernel
theorem dX4_leaveIn_14 : decode cX4_leaveIn 14 = .ok (.iconst 0, 1) := by decide +kernel
theorem dX4_leaveIn_15 : decode cX4_leaveIn 15 = .ok (.istore 4, 2) := by decide +kernel
theorem dX4_leaveIn_17 : decode cX4_leaveIn 17 = .ok (.iload 4, 2) := by decide +kernel
theorem dX4_leaveIn_19 : decode cX4_leaveIn 19 = .ok (.aload_n 0, 1) := by decide +kernel
theorem dX4_leaveIn_20 : decode cX4_leaveIn 20 = .ok (.getfield 99, 3) := by decide +kernel
theorem dX4_leaveIn_23 : decode cX4_leaveIn 23 = .ok (.if_icmp .ge 38, 3) := by decide +kernel
theorem dX4_leaveIn_26 : decode cX4_leaveIn 26 = .ok (.iload_n 3, 1) := by decide +kernel
theorem dX4_leaveIn_27 : decode cX4_leaveIn 27 = .ok (.aload_n 0, 1) := by decide +kernel
theorem dX4_leaveIn_28 : decode cX4_leaveIn 28 = .ok (.getfield 56, 3) := by decide +kernel
theorem dX4_leaveIn_31 : decode cX4_leaveIn 31 = .ok (.iload 4, 2) := by decide +kernel
theorem dX4_leaveIn_33 : decode cX4_leaveIn 33 = .ok (.iaload, 1) := by decide +kernel
theorem dX4_leaveIn_34 : decode cX4_leaveIn 34 = .ok (.iload_n 2, 1) := by decide +kernel
theorem dX4_leaveIn_35 : decode cX4_leaveIn 35 = .ok (.if_icmp .ge 17, 3) := by decide +kernel
theorem dX4_leaveIn_38 : decode cX4_leaveIn 38 = .ok (.aload_n 1, 1) := by decide +kernel
theorem dX4_leaveIn_39 : decode cX4_leaveIn 39 = .ok (.aload_n 0, 1) := by decide +kernel
theorem dX4_leaveIn_40 : decode cX4_leaveIn 40 = .ok (.getfield 56, 3) := by decide +kernel
theorem dX4_leaveIn_43 : decode cX4_leaveIn 43 = .ok (.iload 4, 2) := by decide +kernel
theorem dX4_leaveIn_45 : decode cX4_leaveIn 45 = .ok (.iaload, 1) := by decide +kernel
theorem dX4_leaveIn_46 : decode cX4_leaveIn 46 = .ok (.invokestatic 115, 3) := by decide +kernel
theorem dX4_leaveIn_49 : decode cX4_leaveIn 49 = .ok (.goto 4, 3) := by decide +kernel
theorem dX4_leaveIn_52 : decode cX4_leaveIn 52 = .ok (.iconst 0, 1) := by decide +kernel
theorem dX4_leaveIn_53 : decode cX4_leaveIn 53 = .ok (.iadd, 1) := by decide +kernel
theorem dX4_leaveIn_54 : decode cX4_leaveIn 54 = .ok (.istore_n 3, 1) := by decide +kernel
theorem dX4_leaveIn_55 : decode cX4_leaveIn 55 = .ok (.iinc 4 1, 3) := by decide +kernel
theorem dX4_leaveIn_58 : decode cX4_leaveIn 58 = .ok (.goto (-41), 3) := by decide +kernel
theorem dX4_leaveIn_61 : decode cX4_leaveIn 61 = .ok (.aload_n 1, 1) := by decide +kernel
theorem dX4_leaveIn_62 : decode cX4_leaveIn 62 = .ok (.iconst 0, 1) := by decide +kernel
theorem dX4_leaveIn_63 : decode cX4_leaveIn 63 = .ok (.iload_n 2, 1) := by decide +kernel
theorem dX4_leaveIn_64 : decode cX4_leaveIn 64 = .ok (.invokestatic 122, 3) := by decide +kernel
theorem dX4_leaveIn_67 : decode cX4_leaveIn 67 = .ok (.aload_n 1, 1) := by decide +kernel
theorem dX4_leaveIn_68 : decode cX4_leaveIn 68 = .ok (.bipush 6, 2) := by decide +kernel
theorem dX4_leaveIn_70 : decode cX4_leaveIn 70 = .ok (.aload_n 1, 1) := by decide +kernel
theorem dX4_leaveIn_71 : decode cX4_leaveIn 71 = .ok (.iconst 5, 1) := by decide +kernel
theorem dX4_leaveIn_72 : decode cX4_leaveIn 72 = .ok (.bipush 29, 2) := by decide +kernel
theorem dX4_leaveIn_74 : decode cX4_leaveIn 74 = .ok (.invokestatic 68, 3) := by decide +kernel
theorem dX4_leaveIn_77 : decode cX4_leaveIn 77 = .ok (.aload_n 1, 1) := by decide +kernel
theorem dX4_leaveIn_78 : decode cX4_leaveIn 78 = .ok (.bipush 34, 2) := by decide +kernel
theorem dX4_leaveIn_80 : decode cX4_leaveIn 80 = .ok (.iconst 0, 1) := by decide +kernel
theorem dX4_leaveIn_81 : decode cX4_leaveIn 81 = .ok (.iastore, 1) := by decide +kernel
theorem dX4_leaveIn_82 : decode cX4_leaveIn 82 = .ok (.iload_n 3, 1) := by decide +kernel
theorem dX4_leaveIn_83 : decode cX4_leaveIn 83 = .ok (.ireturn, 1) := by decide +kernel
theorem dX4_append_0 : decode cX4_append 0 = .ok (.aload_n 0, 1) := by decide +kernel
theorem dX4_append_1 : decode cX4_append 1 = .ok (.iload_n 1, 1) := by decide +kernel
theorem dX4_append_2 : decode cX4_append 2 = .ok (.i2l, 1) := by decide +kernel
theorem dX4_append_3 : decode cX4_append 3 = .ok (.lconst 0, 1) := by decide +kernel
theorem dX4_append_4 : decode cX4_append 4 = .ok (.ldc2_w 129, 3) := by decide +kernel
theorem dX4_append_7 : decode cX4_append 7 = .ok (.invokestatic 118, 3) := by decide +kernel
theorem dX4_append_10 : decode cX4_append 10 = .ok (.ifCond .ne 7, 3) := by decide +kernel
theorem dX4_append_13 : decode cX4_append 13 = .ok (.iconst 1, 1) := by decide +kernel
theorem dX4_append_14 : decode cX4_append 14 = .ok (.goto 17, 3) := by decide +kernel
theorem dX4_append_17 : decode cX4_append 17 = .ok (.aload_n 0, 1) := by decide +kernel
theorem dX4_append_18 : decode cX4_append 18 = .ok (.getfield 131, 3) := by decide +kernel
theorem dX4_append_21 : decode cX4_append 21 = .ok (.bipush 120, 2) := by decide +kernel
theorem dX4_append_23 : decode cX4_append 23 = .ok (.if_icmp .ne 7, 3) := by decide +kernel
theorem dX4_append_26 : decode cX4_append 26 = .ok (.iconst 2, 1) := by decide +kernel
theorem dX4_append_27 : decode cX4_append 27 = .ok (.goto 4, 3) := by decide +kernel
theorem dX4_append_30 : decode cX4_append 30 = .ok (.iconst 0, 1) := by decide +kernel
theorem dX4_append_31 : decode cX4_append 31 = .ok (.invokevirtual 134, 3) := by decide +kernel
theorem dX4_append_34 : decode cX4_append 34 = .ok (.ifCond .eq 5, 3) := by decide +kernel
theorem dX4_append_37 : decode cX4_append 37 = .ok (.iconst 0, 1) := by decide +kernel
theorem dX4_append_38 : decode cX4_append 38 = .ok (.ireturn, 1) := by decide +kernel
theorem dX4_append_39 : decode cX4_append 39 = .ok (.aload_n 0, 1) := by decide +kernel
theorem dX4_append_40 : decode cX4_append 40 = .ok (.getfield 7, 3) := by decide +kernel
theorem dX4_append_43 : decode cX4_append 43 = .ok (.aload_n 0, 1) := by decide +kernel
theorem dX4_append_44 : decode cX4_append 44 = .ok (.getfield 131, 3) := by decide +kernel
theorem dX4_append_47 : decode cX4_append 47 = .ok (.iload_n 1, 1) := by decide +kernel
theorem dX4_append_48 : decode cX4_append 48 = .ok (.iastore, 1) := by decide +kernel
theorem dX4_append_49 : decode cX4_append 49 = .ok (.aload_n 0, 1) := by decide +kernel
theorem dX4_append_50 : decode cX4_append 50 = .ok (.dup, 1) := by decide +kernel
theorem dX4_append_51 : decode cX4_append 51 = .ok (.getfield 131, 3) := by decide +kernel
theorem dX4_append_54 : decode cX4_append 54 = .ok (.iconst 1, 1) := by decide +kernel
theorem dX4_append_55 : decode cX4_append 55 = .ok (.iadd, 1) := by decide +kernel
theorem dX4_append_56 : decode cX4_append 56 = .ok (.putfield 131, 3) := by decide +kernel
theorem dX4_append_59 : decode cX4_append 59 = .ok (.aload_n 0, 1) := by decide +kernel
theorem dX4_append_60 : decode cX4_append 60 = .ok (.getfield 131, 3) := by decide +kernel
theorem dX4_append_63 : decode cX4_append 63 = .ok (.ireturn, 1) := by decide +kernel
theorem dX4_clearText_0 : decode cX4_clearText 0 = .ok (.aload_n 0, 1) := by decide +kernel
theorem dX4_clearText_1 : decode cX4_clearText 1 = .ok (.iconst 0, 1) := by decide +kernel
theorem dX4_clearText_2 : decode cX4_clearText 2 = .ok (.putfield 59, 3) := by decide +kernel
theorem dX4_clearText_5 : decode cX4_clearText 5 = .ok (.aload_n 0, 1) := by decide +kernel
theorem dX4_clearText_6 : decode cX4_clearText 6 = .ok (.getfield 131, 3) := by decide +kernel
theorem dX4_clearText_9 : decode cX4_clearText 9 = .ok (.istore_n 1, 1) := by decide +kernel
theorem dX4_clearText_10 : decode cX4_clearText 10 = .ok (.aload_n 0, 1) := by decide +kernel
theorem dX4_clearText_11 : decode cX4_clearText 11 = .ok (.iconst 0, 1) := by decide +kernel
theorem dX4_clearText_12 : decode cX4_clearText 12 = .ok (.putfield 131, 3) := by decide +kernel
theorem dX4_clearText_15 : decode cX4_clearText 15 = .ok (.iload_n 1, 1) := by decide +kernel
theorem dX4_clearText_16 : decode cX4_clearText 16 = .ok (.ireturn, 1) := by decide +kernel
theorem dX4_isNext_0 : decode cX4_isNext 0 = .ok (.aload_n 0, 1) := by decide +kernel
theorem dX4_isNext_1 : decode cX4_isNext 1 = .ok (.getfield 138, 3) := by decide +kernel
theorem dX4_isNext_4 : decode cX4_isNext 4 = .ok (.aload_n 0, 1) := by decide +kernel
theorem dX4_isNext_5 : decode cX4_isNext 5 = .ok (.getfield 131, 3) := by decide +kernel
theorem dX4_isNext_8 : decode cX4_isNext 8 = .ok (.if_icmp .ge 20, 3) := by decide +kernel
theorem dX4_isNext_11 : decode cX4_isNext 11 = .ok (.aload_n 0, 1) := by decide +kernel
theorem dX4_isNext_12 : decode cX4_isNext 12 = .ok (.getfield 7, 3) := by decide +kernel
theorem dX4_isNext_15 : decode cX4_isNext 15 = .ok (.aload_n 0, 1) := by decide +kernel
theorem dX4_isNext_16 : decode cX4_isNext 16 = .ok (.getfield 138, 3) := by decide +kernel
theorem dX4_isNext_19 : decode cX4_isNext 19 = .ok (.iaload, 1) := by decide +kernel
theorem dX4_isNext_20 : decode cX4_isNext 20 = .ok (.iload_n 1, 1) := by decide +kernel
theorem dX4_isNext_21 : decode cX4_isNext 21 = .ok (.if_icmp .ne 7, 3) := by decide +kernel
theorem dX4_isNext_24 : decode cX4_isNext 24 = .ok (.iconst 1, 1) := by decide +kernel
theorem dX4_isNext_25 : decode cX4_isNext 25 = .ok (.goto 4, 3) := by decide +kernel
theorem dX4_isNext_28 : decode cX4_isNext 28 = .ok (.iconst 0, 1) := by decide +kernel
theorem dX4_isNext_29 : decode cX4_isNext 29 = .ok (.ireturn, 1) := by decide +kernel
theorem dX4_digitAt_0 : decode cX4_digitAt 0 = .ok (.iload_n 1, 1) := by decide +kernel
theorem dX4_digitAt_1 : decode cX4_digitAt 1 = .ok (.aload_n 0, 1) := by decide +kernel
theorem dX4_digitAt_2 : decode cX4_digitAt 2 = .ok (.getfield 131, 3) := by decide +kernel
theorem dX4_digitAt_5 : decode cX4_digitAt 5 = .ok (.if_icmp .ge 34, 3) := by decide +kernel
theorem dX4_digitAt_8 : decode cX4_digitAt 8 = .ok (.aload_n 0, 1) := by decide +kernel
theorem dX4_digitAt_9 : decode cX4_digitAt 9 = .ok (.getfield 7, 3) := by decide +kernel
theorem dX4_digitAt_12 : decode cX4_digitAt 12 = .ok (.iload_n 1, 1) := by decide +kernel
theorem dX4_digitAt_13 : decode cX4_digitAt 13 = .ok (.iaload, 1) := by decide +kernel
theorem dX4_digitAt_14 : decode cX4_digitAt 14 = .ok (.i2l, 1) := by decide +kernel
theorem dX4_digitAt_15 : decode cX4_digitAt 15 = .ok (.ldc2_w 141, 3) := by decide +kernel
theorem dX4_digitAt_18 : decode cX4_digitAt 18 = .ok (.ldc2_w 143, 3) := by decide +kernel
theorem dX4_digitAt_21 : decode cX4_digitAt 21 = .ok (.invokestatic 118, 3) := by decide +kernel
theorem dX4_digitAt_24 : decode cX4_digitAt 24 = .ok (.ifCond .eq 15, 3) := by decide +kernel
theorem dX4_digitAt_27 : decode cX4_digitAt 27 = .ok (.aload_n 0, 1) := by decide +kernel
theorem dX4_digitAt_28 : decode cX4_digitAt 28 = .ok (.getfield 7, 3) := by decide +kernel
theorem dX4_digitAt_31 : decode cX4_digitAt 31 = .ok (.iload_n 1, 1) := by decide +kernel
theorem dX4_digitAt_32 : decode cX4_digitAt 32 = .ok (.iaload, 1) := by decide +kernel
theorem dX4_digitAt_33 : decode cX4_digitAt 33 = .ok (.bipush 48, 2) := by decide +kernel
theorem dX4_digitAt_35 : decode cX4_digitAt 35 = .ok (.isub, 1) := by decide +kernel
theorem dX4_digitAt_36 : decode cX4_digitAt 36 = .ok (.goto 4, 3) := by decide +kernel
theorem dX4_digitAt_39 : decode cX4_digitAt 39 = .ok (.iconst (-1), 1) := by decide +kernel
theorem dX4_digitAt_40 : decode cX4_digitAt 40 = .ok (.ireturn, 1) := by decide +kernel
theorem dX4_accept_0 : decode cX4_accept 0 = .ok (.aload_n 0, 1) := by decide +kernel
theorem dX4_accept_1 : decode cX4_accept 1 = .ok (.aload_n 0, 1) := by decide +kernel
theorem dX4_accept_2 : decode cX4_accept 2 = .ok (.getfield 145, 3) := by decide +kernel
theorem dX4_accept_5 : decode cX4_accept 5 = .ok (.ifCond .eq 11, 3) := by decide +kernel
theorem dX4_accept_8 : decode cX4_accept 8 = .ok (.iload_n 1, 1) := by decide +kernel
theorem dX4_accept_9 : decode cX4_accept 9 = .ok (.ifCond .eq 7, 3) := by decide +kernel
theorem dX4_accept_12 : decode cX4_accept 12 = .ok (.iconst 1, 1) := by decide +kernel
theorem dX4_accept_13 : decode cX4_accept 13 = .ok (.goto 4, 3) := by decide +kernel
theorem dX4_accept_16 : decode cX4_accept 16 = .ok (.iconst 0, 1) := by decide +kernel
theorem dX4_accept_17 : decode cX4_accept 17 = .ok (.putfield 145, 3) := by decide +kernel
theorem dX4_accept_20 : decode cX4_accept 20 = .ok (.aload_n 0, 1) := by decide +kernel
theorem dX4_accept_21 : decode cX4_accept 21 = .ok (.dup, 1) := by decide +kernel
theorem dX4_accept_22 : decode cX4_accept 22 = .ok (.getfield 138, 3) := by decide +kernel
theorem dX4_accept_25 : decode cX4_accept 25 = .ok (.aload_n 0, 1) := by decide +kernel
theorem dX4_accept_26 : decode cX4_accept 26 = .ok (.getfield 145, 3) := by decide +kernel
theorem dX4_accept_29 : decode cX4_accept 29 = .ok (.ifCond .eq 7, 3) := by decide +kernel
theorem dX4_accept_32 : decode cX4_accept 32 = .ok (.iconst 1, 1) := by decide +kernel
theorem dX4_accept_33 : decode cX4_accept 33 = .ok (.goto 4, 3) := by decide +kernel
theorem dX4_accept_36 : decode cX4_accept 36 = .ok (.iconst 0, 1) := by decide +kernel
theorem dX4_accept_37 : decode cX4_accept 37 = .ok (.iadd, 1) := by decide +kernel
theorem dX4_accept_38 : decode cX4_accept 38 = .ok (.putfield 138, 3) := by decide +kernel
theorem dX4_accept_41 : decode cX4_accept 41 = .ok (.return_, 1) := by decide +kernel
theorem dX4_digit_0 : decode cX4_digit 0 = .ok (.aload_n 0, 1) := by decide +kernel
theorem dX4_digit_1 : decode cX4_digit 1 = .ok (.aload_n 0, 1) := by decide +kernel
theorem dX4_digit_2 : decode cX4_digit 2 = .ok (.getfield 138, 3) := by decide +kernel
theorem dX4_digit_5 : decode cX4_digit 5 = .ok (.invokevirtual 149, 3) := by decide +kernel
theorem dX4_digit_8 : decode cX4_digit 8 = .ok (.istore_n 3, 1) := by decide +kernel
theorem dX4_digit_9 : decode cX4_digit 9 = .ok (.aload_n 0, 1) := by decide +kernel
theorem dX4_digit_10 : decode cX4_digit 10 = .ok (.iload_n 3, 1) := by decide +kernel
theorem dX4_digit_11 : decode cX4_digit 11 = .ok (.iconst (-1), 1) := by decide +kernel
theorem dX4_digit_12 : decode cX4_digit 12 = .ok (.if_icmp .eq 19, 3) := by decide +kernel
theorem dX4_digit_15 : decode cX4_digit 15 = .ok (.iload_n 3, 1) := by decide +kernel
theorem dX4_digit_16 : decode cX4_digit 16 = .ok (.i2l, 1) := by decide +kernel
theorem dX4_digit_17 : decode cX4_digit 17 = .ok (.iload_n 1, 1) := by decide +kernel
theorem dX4_digit_18 : decode cX4_digit 18 = .ok (.i2l, 1) := by decide +kernel
theorem dX4_digit_19 : decode cX4_digit 19 = .ok (.iload_n 2, 1) := by decide +kernel
theorem dX4_digit_20 : decode cX4_digit 20 = .ok (.i2l, 1) := by decide +kernel
theorem dX4_digit_21 : decode cX4_digit 21 = .ok (.invokestatic 118, 3) := by decide +kernel
theorem dX4_digit_24 : decode cX4_digit 24 = .ok (.ifCond .eq 7, 3) := by decide +kernel
theorem dX4_digit_27 : decode cX4_digit 27 = .ok (.iconst 1, 1) := by decide +kernel
theorem dX4_digit_28 : decode cX4_digit 28 = .ok (.goto 4, 3) := by decide +kernel
theorem dX4_digit_31 : decode cX4_digit 31 = .ok (.iconst 0, 1) := by decide +kernel
theorem dX4_digit_32 : decode cX4_digit 32 = .ok (.invokevirtual 152, 3) := by decide +kernel
theorem dX4_digit_35 : decode cX4_digit 35 = .ok (.aload_n 0, 1) := by decide +kernel
theorem dX4_digit_36 : decode cX4_digit 36 = .ok (.getfield 145, 3) := by decide +kernel
theorem dX4_digit_39 : decode cX4_digit 39 = .ok (.ifCond .eq 7, 3) := by decide +kernel
theorem dX4_digit_42 : decode cX4_digit 42 = .ok (.iload_n 3, 1) := by decide +kernel
theorem dX4_digit_43 : decode cX4_digit 43 = .ok (.goto 4, 3) := by decide +kernel
theorem dX4_digit_46 : decode cX4_digit 46 = .ok (.iload_n 1, 1) := by decide +kernel
theorem dX4_digit_47 : decode cX4_digit 47 = .ok (.ireturn, 1) := by decide +kernel
theorem dX4_take_0 : decode cX4_take 0 = .ok (.aload_n 0, 1) := by decide +kernel
theorem dX4_take_1 : decode cX4_take 1 = .ok (.getfield 156, 3) := by decide +kernel
theorem dX4_take_4 : decode cX4_take 4 = .ok (.bipush 30, 2) := by decide +kernel
theorem dX4_take_6 : decode cX4_take 6 = .ok (.if_icmp .ge 23, 3) := by decide +kernel
theorem dX4_take_9 : decode cX4_take 9 = .ok (.aload_n 0, 1) := by decide +kernel
theorem dX4_take_10 : decode cX4_take 10 = .ok (.getfield 13, 3) := by decide +kernel
theorem dX4_take_13 : decode cX4_take 13 = .ok (.aload_n 0, 1) := by decide +kernel
theorem dX4_take_14 : decode cX4_take 14 = .ok (.getfield 156, 3) := by decide +kernel
theorem dX4_take_17 : decode cX4_take 17 = .ok (.iload_n 1, 1) := by decide +kernel
theorem dX4_take_18 : decode cX4_take 18 = .ok (.iastore, 1) := by decide +kernel
theorem dX4_take_19 : decode cX4_take 19 = .ok (.aload_n 0, 1) := by decide +kernel
theorem dX4_take_20 : decode cX4_take 20 = .ok (.getfield 16, 3) := by decide +kernel
theorem dX4_take_23 : decode cX4_take 23 = .ok (.aload_n 0, 1) := by decide +kernel
theorem dX4_take_24 : decode cX4_take 24 = .ok (.getfield 156, 3) := by decide +kernel
theorem dX4_take_27 : decode cX4_take 27 = .ok (.iload_n 2, 1) := by decide +kernel
theorem dX4_take_28 : decode cX4_take 28 = .ok (.iastore, 1) := by decide +kernel
theorem dX4_take_29 : decode cX4_take 29 = .ok (.aload_n 0, 1) := by decide +kernel
theorem dX4_take_30 : decode cX4_take 30 = .ok (.dup, 1) := by decide +kernel
theorem dX4_take_31 : decode cX4_take 31 = .ok (.getfield 156, 3) := by decide +kernel
theorem dX4_take_34 : decode cX4_take 34 = .ok (.iconst 1, 1) := by decide +kernel
theorem dX4_take_35 : decode cX4_take 35 = .ok (.iadd, 1) := by decide +kernel
theorem dX4_take_36 : decode cX4_take 36 = .ok (.putfield 156, 3) := by decide +kernel
theorem dX4_take_39 : decode cX4_take 39 = .ok (.return_, 1) := by decide +kernel
theorem dX4_readAxle_0 : decode cX4_readAxle 0 = .ok (.aload_n 0, 1) := by decide +kernel
theorem dX4_readAxle_1 : decode cX4_readAxle 1 = .ok (.iconst 0, 1) := by decide +kernel
theorem dX4_readAxle_2 : decode cX4_readAxle 2 = .ok (.bipush 6, 2) := by decide +kernel
theorem dX4_readAxle_4 : decode cX4_readAxle 4 = .ok (.invokevirtual 159, 3) := by decide +kernel
theorem dX4_readAxle_7 : decode cX4_readAxle 7 = .ok (.istore_n 1, 1) := by decide +kernel
theorem dX4_readAxle_8 : decode cX4_readAxle 8 = .ok (.bipush 10, 2) := by decide +kernel
theorem dX4_readAxle_10 : decode cX4_readAxle 10 = .ok (.iload_n 1, 1) := by decide +kernel
theorem dX4_readAxle_11 : decode cX4_readAxle 11 = .ok (.imul, 1) := by decide +kernel
theorem dX4_readAxle_12 : decode cX4_readAxle 12 = .ok (.aload_n 0, 1) := by decide +kernel
theorem dX4_readAxle_13 : decode cX4_readAxle 13 = .ok (.iload_n 1, 1) := by decide +kernel
theorem dX4_readAxle_14 : decode cX4_readAxle 14 = .ok (.ifCond .ne 7, 3) := by decide +kernel
theorem dX4_readAxle_17 : decode cX4_readAxle 17 = .ok (.iconst 1, 1) := by decide +kernel
theorem dX4_readAxle_18 : decode cX4_readAxle 18 = .ok (.goto 4, 3) := by decide +kernel
theorem dX4_readAxle_21 : decode cX4_readAxle 21 = .ok (.iconst 0, 1) := by decide +kernel
theorem dX4_readAxle_22 : decode cX4_readAxle 22 = .ok (.iload_n 1, 1) := by decide +kernel
theorem dX4_readAxle_23 : decode cX4_readAxle 23 = .ok (.bipush 6, 2) := by decide +kernel
theorem dX4_readAxle_25 : decode cX4_readAxle 25 = .ok (.if_icmp .ne 7, 3) := by decide +kernel
theorem dX4_readAxle_28 : decode cX4_readAxle 28 = .ok (.iconst 0, 1) := by decide +kernel
theorem dX4_readAxle_29 : decode cX4_readAxle 29 = .ok (.goto 5, 3) := by decide +kernel
theorem dX4_readAxle_32 : decode cX4_readAxle 32 = .ok (.bipush 9, 2) := by decide +kernel
theorem dX4_readAxle_34 : decode cX4_readAxle 34 = .ok (.invokevirtual 159, 3) := by decide +kernel
theorem dX4_readAxle_37 : decode cX4_readAxle 37 = .ok (.iadd, 1) := by decide +kernel
theorem dX4_readAxle_38 : decode cX4_readAxle 38 = .ok (.istore_n 2, 1) := by decide +kernel
theorem dX4_readAxle_39 : decode cX4_readAxle 39 = .ok (.aload_n 0, 1) := by decide +kernel
theorem dX4_readAxle_40 : decode cX4_readAxle 40 = .ok (.iconst 0, 1) := by decide +kernel
theorem dX4_readAxle_41 : decode cX4_readAxle 41 = .ok (.bipush 9, 2) := by decide +kernel
theorem dX4_readAxle_43 : decode cX4_readAxle 43 = .ok (.invokevirtual 159, 3) := by decide +kernel
theorem dX4_readAxle_46 : decode cX4_readAxle 46 = .ok (.istore_n 3, 1) := by decide +kernel
theorem dX4_readAxle_47 : decode cX4_readAxle 47 = .ok (.bipush 10, 2) := by decide +kernel
theorem dX4_readAxle_49 : decode cX4_readAxle 49 = .ok (.iload_n 3, 1) := by decide +kernel
theorem dX4_readAxle_50 : decode cX4_readAxle 50 = .ok (.imul, 1) := by decide +kernel
theorem dX4_readAxle_51 : decode cX4_readAxle 51 = .ok (.aload_n 0, 1) := by decide +kernel
theorem dX4_readAxle_52 : decode cX4_readAxle 52 = .ok (.iload_n 3, 1) := by decide +kernel
theorem dX4_readAxle_53 : decode cX4_readAxle 53 = .ok (.ifCond .ne 7, 3) := by decide +kernel
theorem dX4_readAxle_56 : decode cX4_readAxle 56 = .ok (.iconst 1, 1) := by decide +kernel
theorem dX4_readAxle_57 : decode cX4_readAxle 57 = .ok (.goto 4, 3) := by decide +kernel
theorem dX4_readAxle_60 : decode cX4_readAxle 60 = .ok (.iconst 0, 1) := by decide +kernel
theorem dX4_readAxle_61 : decode cX4_readAxle 61 = .ok (.bipush 9, 2) := by decide +kernel
theorem dX4_readAxle_63 : decode cX4_readAxle 63 = .ok (.invokevirtual 159, 3) := by decide +kernel
theorem dX4_readAxle_66 : decode cX4_readAxle 66 = .ok (.iadd, 1) := by decide +kernel
theorem dX4_readAxle_67 : decode cX4_readAxle 67 = .ok (.istore 4, 2) := by decide +kernel
theorem dX4_readAxle_69 : decode cX4_readAxle 69 = .ok (.aload_n 0, 1) := by decide +kernel
theorem dX4_readAxle_70 : decode cX4_readAxle 70 = .ok (.getfield 145, 3) := by decide +kernel
theorem dX4_readAxle_73 : decode cX4_readAxle 73 = .ok (.ifCond .eq 23, 3) := by decide +kernel
theorem dX4_readAxle_76 : decode cX4_readAxle 76 = .ok (.aload_n 0, 1) := by decide +kernel
theorem dX4_readAxle_77 : decode cX4_readAxle 77 = .ok (.iload_n 2, 1) := by decide +kernel
theorem dX4_readAxle_78 : decode cX4_readAxle 78 = .ok (.iload 4, 2) := by decide +kernel
theorem dX4_readAxle_80 : decode cX4_readAxle 80 = .ok (.invokevirtual 163, 3) := by decide +kernel
theorem dX4_readAxle_83 : decode cX4_readAxle 83 = .ok (.aload_n 0, 1) := by decide +kernel
theorem dX4_readAxle_84 : decode cX4_readAxle 84 = .ok (.getfield 25, 3) := by decide +kernel
theorem dX4_readAxle_87 : decode cX4_readAxle 87 = .ok (.aload_n 0, 1) := by decide +kernel
theorem dX4_readAxle_88 : decode cX4_readAxle 88 = .ok (.getfield 167, 3) := by decide +kernel
theorem dX4_readAxle_91 : decode cX4_readAxle 91 = .ok (.dup2, 1) := by decide +kernel
theorem dX4_readAxle_92 : decode cX4_readAxle 92 = .ok (.iaload, 1) := by decide +kernel
theorem dX4_readAxle_93 : decode cX4_readAxle 93 = .ok (.iconst 1, 1) := by decide +kernel
theorem dX4_readAxle_94 : decode cX4_readAxle 94 = .ok (.iadd, 1) := by decide +kernel
theorem dX4_readAxle_95 : decode cX4_readAxle 95 = .ok (.iastore, 1) := by decide +kernel
theorem dX4_readAxle_96 : decode cX4_readAxle 96 = .ok (.return_, 1) := by decide +kernel
theorem dX4_openRow_0 : decode cX4_openRow 0 = .ok (.aload_n 0, 1) := by decide +kernel
theorem dX4_openRow_1 : decode cX4_openRow 1 = .ok (.iconst 2, 1) := by decide +kernel
theorem dX4_openRow_2 : decode cX4_openRow 2 = .ok (.bipush 9, 2) := by decide +kernel
theorem dX4_openRow_4 : decode cX4_openRow 4 = .ok (.invokevirtual 159, 3) := by decide +kernel
theorem dX4_openRow_7 : decode cX4_openRow 7 = .ok (.istore_n 1, 1) := by decide +kernel
theorem dX4_openRow_8 : decode cX4_openRow 8 = .ok (.aload_n 0, 1) := by decide +kernel
theorem dX4_openRow_9 : decode cX4_openRow 9 = .ok (.aload_n 0, 1) := by decide +kernel
theorem dX4_openRow_10 : decode cX4_openRow 10 = .ok (.getfield 167, 3) := by decide +kernel
theorem dX4_openRow_13 : decode cX4_openRow 13 = .ok (.iconst 3, 1) := by decide +kernel
theorem dX4_openRow_14 : decode cX4_openRow 14 = .ok (.if_icmp .ge 16, 3) := by decide +kernel
theorem dX4_openRow_17 : decode cX4_openRow 17 = .ok (.aload_n 0, 1) := by decide +kernel
theorem dX4_openRow_18 : decode cX4_openRow 18 = .ok (.bipush 40, 2) := by decide +kernel
theorem dX4_openRow_20 : decode cX4_openRow 20 = .ok (.invokevirtual 170, 3) := by decide +kernel
theorem dX4_openRow_23 : decode cX4_openRow 23 = .ok (.ifCond .eq 7, 3) := by decide +kernel
theorem dX4_openRow_26 : decode cX4_openRow 26 = .ok (.iconst 1, 1) := by decide +kernel
theorem dX4_openRow_27 : decode cX4_openRow 27 = .ok (.goto 4, 3) := by decide +kernel
theorem dX4_openRow_30 : decode cX4_openRow 30 = .ok (.iconst 0, 1) := by decide +kernel
theorem dX4_openRow_31 : decode cX4_openRow 31 = .ok (.invokevirtual 152, 3) := by decide +kernel
theorem dX4_openRow_34 : decode cX4_openRow 34 = .ok (.aload_n 0, 1) := by decide +kernel
theorem dX4_openRow_35 : decode cX4_openRow 35 = .ok (.getfield 145, 3) := by decide +kernel
theorem dX4_openRow_38 : decode cX4_openRow 38 = .ok (.ifCond .eq 46, 3) := by decide +kernel
theorem dX4_openRow_41 : decode cX4_openRow 41 = .ok (.aload_n 0, 1) := by decide +kernel
theorem dX4_openRow_42 : decode cX4_openRow 42 = .ok (.dup, 1) := by decide +kernel
theorem dX4_openRow_43 : decode cX4_openRow 43 = .ok (.getfield 167, 3) := by decide +kernel
theorem dX4_openRow_46 : decode cX4_openRow 46 = .ok (.iconst 1, 1) := by decide +kernel
theorem dX4_openRow_47 : decode cX4_openRow 47 = .ok (.iadd, 1) := by decide +kernel
theorem dX4_openRow_48 : decode cX4_openRow 48 = .ok (.putfield 167, 3) := by decide +kernel
theorem dX4_openRow_51 : decode cX4_openRow 51 = .ok (.aload_n 0, 1) := by decide +kernel
theorem dX4_openRow_52 : decode cX4_openRow 52 = .ok (.getfield 19, 3) := by decide +kernel
theorem dX4_openRow_55 : decode cX4_openRow 55 = .ok (.aload_n 0, 1) := by decide +kernel
theorem dX4_openRow_56 : decode cX4_openRow 56 = .ok (.getfield 167, 3) := by decide +kernel
theorem dX4_openRow_59 : decode cX4_openRow 59 = .ok (.aload_n 0, 1) := by decide +kernel
theorem dX4_openRow_60 : decode cX4_openRow 60 = .ok (.getfield 156, 3) := by decide +kernel
theorem dX4_openRow_63 : decode cX4_openRow 63 = .ok (.iastore, 1) := by decide +kernel
theorem dX4_openRow_64 : decode cX4_openRow 64 = .ok (.aload_n 0, 1) := by decide +kernel
theorem dX4_openRow_65 : decode cX4_openRow 65 = .ok (.getfield 22, 3) := by decide +kernel
theorem dX4_openRow_68 : decode cX4_openRow 68 = .ok (.aload_n 0, 1) := by decide +kernel
theorem dX4_openRow_69 : decode cX4_openRow 69 = .ok (.getfield 167, 3) := by decide +kernel
theorem dX4_openRow_72 : decode cX4_openRow 72 = .ok (.iload_n 1, 1) := by decide +kernel
theorem dX4_openRow_73 : decode cX4_openRow 73 = .ok (.iastore, 1) := by decide +kernel
theorem dX4_openRow_74 : decode cX4_openRow 74 = .ok (.aload_n 0, 1) := by decide +kernel
theorem dX4_openRow_75 : decode cX4_openRow 75 = .ok (.getfield 25, 3) := by decide +kernel
theorem dX4_openRow_78 : decode cX4_openRow 78 = .ok (.aload_n 0, 1) := by decide +kernel
theorem dX4_openRow_79 : decode cX4_openRow 79 = .ok (.getfield 167, 3) := by decide +kernel
theorem dX4_openRow_82 : decode cX4_openRow 82 = .ok (.iconst 0, 1) := by decide +kernel
theorem dX4_openRow_83 : decode cX4_openRow 83 = .ok (.iastore, 1) := by decide +kernel
theorem dX4_openRow_84 : decode cX4_openRow 84 = .ok (.return_, 1) := by decide +kernel
theorem dX4_closeRow_0 : decode cX4_closeRow 0 = .ok (.aload_n 0, 1) := by decide +kernel
theorem dX4_closeRow_1 : decode cX4_closeRow 1 = .ok (.aload_n 0, 1) := by decide +kernel
theorem dX4_closeRow_2 : decode cX4_closeRow 2 = .ok (.getfield 25, 3) := by decide +kernel
theorem dX4_closeRow_5 : decode cX4_closeRow 5 = .ok (.aload_n 0, 1) := by decide +kernel
theorem dX4_closeRow_6 : decode cX4_closeRow 6 = .ok (.getfield 167, 3) := by decide +kernel
theorem dX4_closeRow_9 : decode cX4_closeRow 9 = .ok (.iaload, 1) := by decide +kernel
theorem dX4_closeRow_10 : decode cX4_closeRow 10 = .ok (.ifCond .le 7, 3) := by decide +kernel
theorem dX4_closeRow_13 : decode cX4_closeRow 13 = .ok (.iconst 1, 1) := by decide +kernel
theorem dX4_closeRow_14 : decode cX4_closeRow 14 = .ok (.goto 4, 3) := by decide +kernel
theorem dX4_closeRow_17 : decode cX4_closeRow 17 = .ok (.iconst 0, 1) := by decide +kernel
theorem dX4_closeRow_18 : decode cX4_closeRow 18 = .ok (.invokevirtual 152, 3) := by decide +kernel
theorem dX4_closeRow_21 : decode cX4_closeRow 21 = .ok (.aload_n 0, 1) := by decide +kernel
theorem dX4_closeRow_22 : decode cX4_closeRow 22 = .ok (.getfield 145, 3) := by decide +kernel
theorem dX4_closeRow_25 : decode cX4_closeRow 25 = .ok (.ifCond .ne 4, 3) := by decide +kernel
theorem dX4_closeRow_28 : decode cX4_closeRow 28 = .ok (.return_, 1) := by decide +kernel
theorem dX4_closeRow_29 : decode cX4_closeRow 29 = .ok (.aload_n 0, 1) := by decide +kernel
theorem dX4_closeRow_30 : decode cX4_closeRow 30 = .ok (.getfield 19, 3) := by decide +kernel
theorem dX4_closeRow_33 : decode cX4_closeRow 33 = .ok (.aload_n 0, 1) := by decide +kernel
theorem dX4_closeRow_34 : decode cX4_closeRow 34 = .ok (.getfield 167, 3) := by decide +kernel
theorem dX4_closeRow_37 : decode cX4_closeRow 37 = .ok (.iaload, 1) := by decide +kernel
theorem dX4_closeRow_38 : decode cX4_closeRow 38 = .ok (.istore_n 1, 1) := by decide +kernel
theorem dX4_closeRow_39 : decode cX4_closeRow 39 = .ok (.aload_n 0, 1) := by decide +kernel
theorem dX4_closeRow_40 : decode cX4_closeRow 40 = .ok (.getfield 156, 3) := by decide +kernel
theorem dX4_closeRow_43 : decode cX4_closeRow 43 = .ok (.iload_n 1, 1) := by decide +kernel
theorem dX4_closeRow_44 : decode cX4_closeRow 44 = .ok (.isub, 1) := by decide +kernel
theorem dX4_closeRow_45 : decode cX4_closeRow 45 = .ok (.istore_n 2, 1) := by decide +kernel
theorem dX4_closeRow_46 : decode cX4_closeRow 46 = .ok (.iload_n 2, 1) := by decide +kernel
theorem dX4_closeRow_47 : decode cX4_closeRow 47 = .ok (.aload_n 0, 1) := by decide +kernel
theorem dX4_closeRow_48 : decode cX4_closeRow 48 = .ok (.getfield 22, 3) := by decide +kernel
theorem dX4_closeRow_51 : decode cX4_closeRow 51 = .ok (.aload_n 0, 1) := by decide +kernel
theorem dX4_closeRow_52 : decode cX4_closeRow 52 = .ok (.getfield 167, 3) := by decide +kernel
theorem dX4_closeRow_55 : decode cX4_closeRow 55 = .ok (.iaload, 1) := by decide +kernel
theorem dX4_closeRow_56 : decode cX4_closeRow 56 = .ok (.imul, 1) := by decide +kernel
theorem dX4_closeRow_57 : decode cX4_closeRow 57 = .ok (.istore_n 3, 1) := by decide +kernel
theorem dX4_closeRow_58 : decode cX4_closeRow 58 = .ok (.iload_n 2, 1) := by decide +kernel
theorem dX4_closeRow_59 : decode cX4_closeRow 59 = .ok (.istore 4, 2) := by decide +kernel
theorem dX4_closeRow_61 : decode cX4_closeRow 61 = .ok (.iload 4, 2) := by decide +kernel
theorem dX4_closeRow_63 : decode cX4_closeRow 63 = .ok (.iload_n 3, 1) := by decide +kernel
theorem dX4_closeRow_64 : decode cX4_closeRow 64 = .ok (.if_icmp .ge 58, 3) := by decide +kernel
theorem dX4_closeRow_67 : decode cX4_closeRow 67 = .ok (.iload_n 1, 1) := by decide +kernel
theorem dX4_closeRow_68 : decode cX4_closeRow 68 = .ok (.iload 4, 2) := by decide +kernel
theorem dX4_closeRow_70 : decode cX4_closeRow 70 = .ok (.iadd, 1) := by decide +kernel
theorem dX4_closeRow_71 : decode cX4_closeRow 71 = .ok (.bipush 30, 2) := by decide +kernel
theorem dX4_closeRow_73 : decode cX4_closeRow 73 = .ok (.if_icmp .ge 49, 3) := by decide +kernel
theorem dX4_closeRow_76 : decode cX4_closeRow 76 = .ok (.aload_n 0, 1) := by decide +kernel
theorem dX4_closeRow_77 : decode cX4_closeRow 77 = .ok (.getfield 13, 3) := by decide +kernel
theorem dX4_closeRow_80 : decode cX4_closeRow 80 = .ok (.iload_n 1, 1) := by decide +kernel
theorem dX4_closeRow_81 : decode cX4_closeRow 81 = .ok (.iload 4, 2) := by decide +kernel
theorem dX4_closeRow_83 : decode cX4_closeRow 83 = .ok (.iadd, 1) := by decide +kernel
theorem dX4_closeRow_84 : decode cX4_closeRow 84 = .ok (.aload_n 0, 1) := by decide +kernel
theorem dX4_closeRow_85 : decode cX4_closeRow 85 = .ok (.getfield 13, 3) := by decide +kernel
theorem dX4_closeRow_88 : decode cX4_closeRow 88 = .ok (.iload_n 1, 1) := by decide +kernel
theorem dX4_closeRow_89 : decode cX4_closeRow 89 = .ok (.iload 4, 2) := by decide +kernel
theorem dX4_closeRow_91 : decode cX4_closeRow 91 = .ok (.iadd, 1) := by decide +kernel
theorem dX4_closeRow_92 : decode cX4_closeRow 92 = .ok (.iload_n 2, 1) := by decide +kernel
theorem dX4_closeRow_93 : decode cX4_closeRow 93 = .ok (.isub, 1) := by decide +kernel
theorem dX4_closeRow_94 : decode cX4_closeRow 94 = .ok (.iaload, 1) := by decide +kernel
theorem dX4_closeRow_95 : decode cX4_closeRow 95 = .ok (.iastore, 1) := by decide +kernel
theorem dX4_closeRow_96 : decode cX4_closeRow 96 = .ok (.aload_n 0, 1) := by decide +kernel
theorem dX4_closeRow_97 : decode cX4_closeRow 97 = .ok (.getfield 16, 3) := by decide +kernel
theorem dX4_closeRow_100 : decode cX4_closeRow 100 = .ok (.iload_n 1, 1) := by decide +kernel
theorem dX4_closeRow_101 : decode cX4_closeRow 101 = .ok (.iload 4, 2) := by decide +kernel
theorem dX4_closeRow_103 : decode cX4_closeRow 103 = .ok (.iadd, 1) := by decide +kernel
theorem dX4_closeRow_104 : decode cX4_closeRow 104 = .ok (.aload_n 0, 1) := by decide +kernel
theorem dX4_closeRow_105 : decode cX4_closeRow 105 = .ok (.getfield 16, 3) := by decide +kernel
theorem dX4_closeRow_108 : decode cX4_closeRow 108 = .ok (.iload_n 1, 1) := by decide +kernel
theorem dX4_closeRow_109 : decode cX4_closeRow 109 = .ok (.iload 4, 2) := by decide +kernel
theorem dX4_closeRow_111 : decode cX4_closeRow 111 = .ok (.iadd, 1) := by decide +kernel
theorem dX4_closeRow_112 : decode cX4_closeRow 112 = .ok (.iload_n 2, 1) := by decide +kernel
theorem dX4_closeRow_113 : decode cX4_closeRow 113 = .ok (.isub, 1) := by decide +kernel
theorem dX4_closeRow_114 : decode cX4_closeRow 114 = .ok (.iaload, 1) := by decide +kernel
theorem dX4_closeRow_115 : decode cX4_closeRow 115 = .ok (.iastore, 1) := by decide +kernel
theorem dX4_closeRow_116 : decode cX4_closeRow 116 = .ok (.iinc 4 1, 3) := by decide +kernel
theorem dX4_closeRow_119 : decode cX4_closeRow 119 = .ok (.goto (-58), 3) := by decide +kernel
theorem dX4_closeRow_122 : decode cX4_closeRow 122 = .ok (.aload_n 0, 1) := by decide +kernel
theorem dX4_closeRow_123 : decode cX4_closeRow 123 = .ok (.iload_n 1, 1) := by decide +kernel
theorem dX4_closeRow_124 : decode cX4_closeRow 124 = .ok (.iload_n 3, 1) := by decide +kernel
theorem dX4_closeRow_125 : decode cX4_closeRow 125 = .ok (.iadd, 1) := by decide +kernel
theorem dX4_closeRow_126 : decode cX4_closeRow 126 = .ok (.putfield 156, 3) := by decide +kernel
theorem dX4_closeRow_129 : decode cX4_closeRow 129 = .ok (.aload_n 0, 1) := by decide +kernel
theorem dX4_closeRow_130 : decode cX4_closeRow 130 = .ok (.dup, 1) := by decide +kernel
theorem dX4_closeRow_131 : decode cX4_closeRow 131 = .ok (.getfield 167, 3) := by decide +kernel
theorem dX4_closeRow_134 : decode cX4_closeRow 134 = .ok (.iconst 1, 1) := by decide +kernel
theorem dX4_closeRow_135 : decode cX4_closeRow 135 = .ok (.isub, 1) := by decide +kernel
theorem dX4_closeRow_136 : decode cX4_closeRow 136 = .ok (.putfield 167, 3) := by decide +kernel
theorem dX4_closeRow_139 : decode cX4_closeRow 139 = .ok (.aload_n 0, 1) := by decide +kernel
theorem dX4_closeRow_140 : decode cX4_closeRow 140 = .ok (.getfield 25, 3) := by decide +kernel
theorem dX4_closeRow_143 : decode cX4_closeRow 143 = .ok (.aload_n 0, 1) := by decide +kernel
theorem dX4_closeRow_144 : decode cX4_closeRow 144 = .ok (.getfield 167, 3) := by decide +kernel
theorem dX4_closeRow_147 : decode cX4_closeRow 147 = .ok (.dup2, 1) := by decide +kernel
theorem dX4_closeRow_148 : decode cX4_closeRow 148 = .ok (.iaload, 1) := by decide +kernel
theorem dX4_closeRow_149 : decode cX4_closeRow 149 = .ok (.iconst 1, 1) := by decide +kernel
theorem dX4_closeRow_150 : decode cX4_closeRow 150 = .ok (.iadd, 1) := by decide +kernel
theorem dX4_closeRow_151 : decode cX4_closeRow 151 = .ok (.iastore, 1) := by decide +kernel
theorem dX4_closeRow_152 : decode cX4_closeRow 152 = .ok (.return_, 1) := by decide +kernel
theorem dX4_readPart_0 : decode cX4_readPart 0 = .ok (.aload_n 0, 1) := by decide +kernel
theorem dX4_readPart_1 : decode cX4_readPart 1 = .ok (.aload_n 0, 1) := by decide +kernel
theorem dX4_readPart_2 : decode cX4_readPart 2 = .ok (.getfield 138, 3) := by decide +kernel
theorem dX4_readPart_5 : decode cX4_readPart 5 = .ok (.invokevirtual 149, 3) := by decide +kernel
theorem dX4_readPart_8 : decode cX4_readPart 8 = .ok (.istore_n 1, 1) := by decide +kernel
theorem dX4_readPart_9 : decode cX4_readPart 9 = .ok (.iload_n 1, 1) := by decide +kernel
theorem dX4_readPart_10 : decode cX4_readPart 10 = .ok (.i2l, 1) := by decide +kernel
theorem dX4_readPart_11 : decode cX4_readPart 11 = .ok (.ldc2_w 173, 3) := by decide +kernel
theorem dX4_readPart_14 : decode cX4_readPart 14 = .ok (.ldc2_w 175, 3) := by decide +kernel
theorem dX4_readPart_17 : decode cX4_readPart 17 = .ok (.invokestatic 118, 3) := by decide +kernel
theorem dX4_readPart_20 : decode cX4_readPart 20 = .ok (.ifCond .eq 11, 3) := by decide +kernel
theorem dX4_readPart_23 : decode cX4_readPart 23 = .ok (.aload_n 0, 1) := by decide +kernel
theorem dX4_readPart_24 : decode cX4_readPart 24 = .ok (.getfield 167, 3) := by decide +kernel
theorem dX4_readPart_27 : decode cX4_readPart 27 = .ok (.iconst 3, 1) := by decide +kernel
theorem dX4_readPart_28 : decode cX4_readPart 28 = .ok (.if_icmp .lt 46, 3) := by decide +kernel
theorem dX4_readPart_31 : decode cX4_readPart 31 = .ok (.iload_n 1, 1) := by decide +kernel
theorem dX4_readPart_32 : decode cX4_readPart 32 = .ok (.i2l, 1) := by decide +kernel
theorem dX4_readPart_33 : decode cX4_readPart 33 = .ok (.ldc2_w 177, 3) := by decide +kernel
theorem dX4_readPart_36 : decode cX4_readPart 36 = .ok (.ldc2_w 179, 3) := by decide +kernel
theorem dX4_readPart_39 : decode cX4_readPart 39 = .ok (.invokestatic 118, 3) := by decide +kernel
theorem dX4_readPart_42 : decode cX4_readPart 42 = .ok (.ifCond .eq 36, 3) := by decide +kernel
theorem dX4_readPart_45 : decode cX4_readPart 45 = .ok (.aload_n 0, 1) := by decide +kernel
theorem dX4_readPart_46 : decode cX4_readPart 46 = .ok (.getfield 138, 3) := by decide +kernel
theorem dX4_readPart_49 : decode cX4_readPart 49 = .ok (.iconst 1, 1) := by decide +kernel
theorem dX4_readPart_50 : decode cX4_readPart 50 = .ok (.iadd, 1) := by decide +kernel
theorem dX4_readPart_51 : decode cX4_readPart 51 = .ok (.aload_n 0, 1) := by decide +kernel
theorem dX4_readPart_52 : decode cX4_readPart 52 = .ok (.getfield 131, 3) := by decide +kernel
theorem dX4_readPart_55 : decode cX4_readPart 55 = .ok (.if_icmp .ge 23, 3) := by decide +kernel
theorem dX4_readPart_58 : decode cX4_readPart 58 = .ok (.aload_n 0, 1) := by decide +kernel
theorem dX4_readPart_59 : decode cX4_readPart 59 = .ok (.getfield 7, 3) := by decide +kernel
theorem dX4_readPart_62 : decode cX4_readPart 62 = .ok (.aload_n 0, 1) := by decide +kernel
theorem dX4_readPart_63 : decode cX4_readPart 63 = .ok (.getfield 138, 3) := by decide +kernel
theorem dX4_readPart_66 : decode cX4_readPart 66 = .ok (.iconst 1, 1) := by decide +kernel
theorem dX4_readPart_67 : decode cX4_readPart 67 = .ok (.iadd, 1) := by decide +kernel
theorem dX4_readPart_68 : decode cX4_readPart 68 = .ok (.iaload, 1) := by decide +kernel
theorem dX4_readPart_69 : decode cX4_readPart 69 = .ok (.bipush 40, 2) := by decide +kernel
theorem dX4_readPart_71 : decode cX4_readPart 71 = .ok (.if_icmp .ne 7, 3) := by decide +kernel
theorem dX4_readPart_74 : decode cX4_readPart 74 = .ok (.iconst 1, 1) := by decide +kernel
theorem dX4_readPart_75 : decode cX4_readPart 75 = .ok (.goto 4, 3) := by decide +kernel
theorem dX4_readPart_78 : decode cX4_readPart 78 = .ok (.iconst 0, 1) := by decide +kernel
theorem dX4_readPart_79 : decode cX4_readPart 79 = .ok (.istore_n 2, 1) := by decide +kernel
theorem dX4_readPart_80 : decode cX4_readPart 80 = .ok (.aload_n 0, 1) := by decide +kernel
theorem dX4_readPart_81 : decode cX4_readPart 81 = .ok (.getfield 167, 3) := by decide +kernel
theorem dX4_readPart_84 : decode cX4_readPart 84 = .ok (.ifCond .le 19, 3) := by decide +kernel
theorem dX4_readPart_87 : decode cX4_readPart 87 = .ok (.aload_n 0, 1) := by decide +kernel
theorem dX4_readPart_88 : decode cX4_readPart 88 = .ok (.bipush 41, 2) := by decide +kernel
theorem dX4_readPart_90 : decode cX4_readPart 90 = .ok (.invokevirtual 170, 3) := by decide +kernel
theorem dX4_readPart_93 : decode cX4_readPart 93 = .ok (.ifCond .eq 10, 3) := by decide +kernel
theorem dX4_readPart_96 : decode cX4_readPart 96 = .ok (.aload_n 0, 1) := by decide +kernel
theorem dX4_readPart_97 : decode cX4_readPart 97 = .ok (.invokevirtual 181, 3) := by decide +kernel
theorem dX4_readPart_100 : decode cX4_readPart 100 = .ok (.goto 18, 3) := by decide +kernel
theorem dX4_readPart_103 : decode cX4_readPart 103 = .ok (.iload_n 2, 1) := by decide +kernel
theorem dX4_readPart_104 : decode cX4_readPart 104 = .ok (.ifCond .eq 10, 3) := by decide +kernel
theorem dX4_readPart_107 : decode cX4_readPart 107 = .ok (.aload_n 0, 1) := by decide +kernel
theorem dX4_readPart_108 : decode cX4_readPart 108 = .ok (.invokevirtual 184, 3) := by decide +kernel
theorem dX4_readPart_111 : decode cX4_readPart 111 = .ok (.goto 7, 3) := by decide +kernel
theorem dX4_readPart_114 : decode cX4_readPart 114 = .ok (.aload_n 0, 1) := by decide +kernel
theorem dX4_readPart_115 : decode cX4_readPart 115 = .ok (.invokevirtual 187, 3) := by decide +kernel
theorem dX4_readPart_118 : decode cX4_readPart 118 = .ok (.return_, 1) := by decide +kernel
theorem dX4_readText_0 : decode cX4_readText 0 = .ok (.aload_n 0, 1) := by decide +kernel
theorem dX4_readText_1 : decode cX4_readText 1 = .ok (.iconst 0, 1) := by decide +kernel
theorem dX4_readText_2 : decode cX4_readText 2 = .ok (.putfield 138, 3) := by decide +kernel
theorem dX4_readText_5 : decode cX4_readText 5 = .ok (.aload_n 0, 1) := by decide +kernel
theorem dX4_readText_6 : decode cX4_readText 6 = .ok (.iconst 1, 1) := by decide +kernel
theorem dX4_readText_7 : decode cX4_readText 7 = .ok (.putfield 145, 3) := by decide +kernel
theorem dX4_readText_10 : decode cX4_readText 10 = .ok (.aload_n 0, 1) := by decide +kernel
theorem dX4_readText_11 : decode cX4_readText 11 = .ok (.iconst 0, 1) := by decide +kernel
theorem dX4_readText_12 : decode cX4_readText 12 = .ok (.putfield 156, 3) := by decide +kernel
theorem dX4_readText_15 : decode cX4_readText 15 = .ok (.aload_n 0, 1) := by decide +kernel
theorem dX4_readText_16 : decode cX4_readText 16 = .ok (.iconst 0, 1) := by decide +kernel
theorem dX4_readText_17 : decode cX4_readText 17 = .ok (.putfield 167, 3) := by decide +kernel
theorem dX4_readText_20 : decode cX4_readText 20 = .ok (.aload_n 0, 1) := by decide +kernel
theorem dX4_readText_21 : decode cX4_readText 21 = .ok (.aload_n 0, 1) := by decide +kernel
theorem dX4_readText_22 : decode cX4_readText 22 = .ok (.bipush 82, 2) := by decide +kernel
theorem dX4_readText_24 : decode cX4_readText 24 = .ok (.invokevirtual 170, 3) := by decide +kernel
theorem dX4_readText_27 : decode cX4_readText 27 = .ok (.invokevirtual 152, 3) := by decide +kernel
theorem dX4_readText_30 : decode cX4_readText 30 = .ok (.aload_n 0, 1) := by decide +kernel
theorem dX4_readText_31 : decode cX4_readText 31 = .ok (.getfield 145, 3) := by decide +kernel
theorem dX4_readText_34 : decode cX4_readText 34 = .ok (.ifCond .eq 21, 3) := by decide +kernel
theorem dX4_readText_37 : decode cX4_readText 37 = .ok (.aload_n 0, 1) := by decide +kernel
theorem dX4_readText_38 : decode cX4_readText 38 = .ok (.getfield 138, 3) := by decide +kernel
theorem dX4_readText_41 : decode cX4_readText 41 = .ok (.aload_n 0, 1) := by decide +kernel
theorem dX4_readText_42 : decode cX4_readText 42 = .ok (.getfield 131, 3) := by decide +kernel
theorem dX4_readText_45 : decode cX4_readText 45 = .ok (.if_icmp .ge 10, 3) := by decide +kernel
theorem dX4_readText_48 : decode cX4_readText 48 = .ok (.aload_n 0, 1) := by decide +kernel
theorem dX4_readText_49 : decode cX4_readText 49 = .ok (.invokevirtual 190, 3) := by decide +kernel
theorem dX4_readText_52 : decode cX4_readText 52 = .ok (.goto (-22), 3) := by decide +kernel
theorem dX4_readText_55 : decode cX4_readText 55 = .ok (.aload_n 0, 1) := by decide +kernel
theorem dX4_readText_56 : decode cX4_readText 56 = .ok (.getfield 145, 3) := by decide +kernel
theorem dX4_readText_59 : decode cX4_readText 59 = .ok (.ifCond .eq 14, 3) := by decide +kernel
theorem dX4_readText_62 : decode cX4_readText 62 = .ok (.aload_n 0, 1) := by decide +kernel
theorem dX4_readText_63 : decode cX4_readText 63 = .ok (.getfield 167, 3) := by decide +kernel
theorem dX4_readText_66 : decode cX4_readText 66 = .ok (.ifCond .ne 7, 3) := by decide +kernel
theorem dX4_readText_69 : decode cX4_readText 69 = .ok (.iconst (-1), 1) := by decide +kernel
theorem dX4_readText_70 : decode cX4_readText 70 = .ok (.goto 7, 3) := by decide +kernel
theorem dX4_readText_73 : decode cX4_readText 73 = .ok (.aload_n 0, 1) := by decide +kernel
theorem dX4_readText_74 : decode cX4_readText 74 = .ok (.getfield 138, 3) := by decide +kernel
theorem dX4_readText_77 : decode cX4_readText 77 = .ok (.ireturn, 1) := by decide +kernel
theorem dX4_errorPosition_0 : decode cX4_errorPosition 0 = .ok (.aload_n 0, 1) := by decide +kernel
theorem dX4_errorPosition_1 : decode cX4_errorPosition 1 = .ok (.iconst 0, 1) := by decide +kernel
theorem dX4_errorPosition_2 : decode cX4_errorPosition 2 = .ok (.putfield 59, 3) := by decide +kernel
theorem dX4_errorPosition_5 : decode cX4_errorPosition 5 = .ok (.aload_n 0, 1) := by decide +kernel
theorem dX4_errorPosition_6 : decode cX4_errorPosition 6 = .ok (.invokevirtual 193, 3) := by decide +kernel
theorem dX4_errorPosition_9 : decode cX4_errorPosition 9 = .ok (.ireturn, 1) := by decide +kernel
theorem dX4_axlesTold_0 : decode cX4_axlesTold 0 = .ok (.aload_n 0, 1) := by decide +kernel
theorem dX4_axlesTold_1 : decode cX4_axlesTold 1 = .ok (.iconst 0, 1) := by decide +kernel
theorem dX4_axlesTold_2 : decode cX4_axlesTold 2 = .ok (.putfield 59, 3) := by decide +kernel
theorem dX4_axlesTold_5 : decode cX4_axlesTold 5 = .ok (.aload_n 0, 1) := by decide +kernel
theorem dX4_axlesTold_6 : decode cX4_axlesTold 6 = .ok (.invokevirtual 193, 3) := by decide +kernel
theorem dX4_axlesTold_9 : decode cX4_axlesTold 9 = .ok (.iconst (-1), 1) := by decide +kernel
theorem dX4_axlesTold_10 : decode cX4_axlesTold 10 = .ok (.if_icmp .ne 10, 3) := by decide +kernel
theorem dX4_axlesTold_13 : decode cX4_axlesTold 13 = .ok (.aload_n 0, 1) := by decide +kernel
theorem dX4_axlesTold_14 : decode cX4_axlesTold 14 = .ok (.getfield 156, 3) := by decide +kernel
theorem dX4_axlesTold_17 : decode cX4_axlesTold 17 = .ok (.goto 4, 3) := by decide +kernel
theorem dX4_axlesTold_20 : decode cX4_axlesTold 20 = .ok (.iconst (-1), 1) := by decide +kernel
theorem dX4_axlesTold_21 : decode cX4_axlesTold 21 = .ok (.ireturn, 1) := by decide +kernel
theorem dX4_badBills_0 : decode cX4_badBills 0 = .ok (.iconst 0, 1) := by decide +kernel
theorem dX4_badBills_1 : decode cX4_badBills 1 = .ok (.istore_n 2, 1) := by decide +kernel
theorem dX4_badBills_2 : decode cX4_badBills 2 = .ok (.iconst 0, 1) := by decide +kernel
theorem dX4_badBills_3 : decode cX4_badBills 3 = .ok (.istore_n 3, 1) := by decide +kernel
theorem dX4_badBills_4 : decode cX4_badBills 4 = .ok (.iload_n 3, 1) := by decide +kernel
theorem dX4_badBills_5 : decode cX4_badBills 5 = .ok (.aload_n 0, 1) := by decide +kernel
theorem dX4_badBills_6 : decode cX4_badBills 6 = .ok (.getfield 102, 3) := by decide +kernel
theorem dX4_badBills_9 : decode cX4_badBills 9 = .ok (.if_icmp .ge 48, 3) := by decide +kernel
theorem dX4_badBills_12 : decode cX4_badBills 12 = .ok (.iload_n 2, 1) := by decide +kernel
theorem dX4_badBills_13 : decode cX4_badBills 13 = .ok (.aload_n 0, 1) := by decide +kernel
theorem dX4_badBills_14 : decode cX4_badBills 14 = .ok (.getfield 28, 3) := by decide +kernel
theorem dX4_badBills_17 : decode cX4_badBills 17 = .ok (.iconst 5, 1) := by decide +kernel
theorem dX4_badBills_18 : decode cX4_badBills 18 = .ok (.iload_n 3, 1) := by decide +kernel
theorem dX4_badBills_19 : decode cX4_badBills 19 = .ok (.iadd, 1) := by decide +kernel
theorem dX4_badBills_20 : decode cX4_badBills 20 = .ok (.iaload, 1) := by decide +kernel
theorem dX4_badBills_21 : decode cX4_badBills 21 = .ok (.ifCond .le 27, 3) := by decide +kernel
theorem dX4_badBills_24 : decode cX4_badBills 24 = .ok (.iload_n 1, 1) := by decide +kernel
theorem dX4_badBills_25 : decode cX4_badBills 25 = .ok (.ifCond .ne 19, 3) := by decide +kernel
theorem dX4_badBills_28 : decode cX4_badBills 28 = .ok (.aload_n 0, 1) := by decide +kernel
theorem dX4_badBills_29 : decode cX4_badBills 29 = .ok (.getfield 28, 3) := by decide +kernel
theorem dX4_badBills_32 : decode cX4_badBills 32 = .ok (.iconst 5, 1) := by decide +kernel
theorem dX4_badBills_33 : decode cX4_badBills 33 = .ok (.iload_n 3, 1) := by decide +kernel
theorem dX4_badBills_34 : decode cX4_badBills 34 = .ok (.iadd, 1) := by decide +kernel
theorem dX4_badBills_35 : decode cX4_badBills 35 = .ok (.iaload, 1) := by decide +kernel
theorem dX4_badBills_36 : decode cX4_badBills 36 = .ok (.aload_n 0, 1) := by decide +kernel
theorem dX4_badBills_37 : decode cX4_badBills 37 = .ok (.iload_n 3, 1) := by decide +kernel
theorem dX4_badBills_38 : decode cX4_badBills 38 = .ok (.invokevirtual 197, 3) := by decide +kernel
theorem dX4_badBills_41 : decode cX4_badBills 41 = .ok (.if_icmp .eq 7, 3) := by decide +kernel
theorem dX4_badBills_44 : decode cX4_badBills 44 = .ok (.iconst 1, 1) := by decide +kernel
theorem dX4_badBills_45 : decode cX4_badBills 45 = .ok (.goto 4, 3) := by decide +kernel
theorem dX4_badBills_48 : decode cX4_badBills 48 = .ok (.iconst 0, 1) := by decide +kernel
theorem dX4_badBills_49 : decode cX4_badBills 49 = .ok (.iadd, 1) := by decide +kernel
theorem dX4_badBills_50 : decode cX4_badBills 50 = .ok (.istore_n 2, 1) := by decide +kernel
theorem dX4_badBills_51 : decode cX4_badBills 51 = .ok (.iinc 3 1, 3) := by decide +kernel
theorem dX4_badBills_54 : decode cX4_badBills 54 = .ok (.goto (-50), 3) := by decide +kernel
theorem dX4_badBills_57 : decode cX4_badBills 57 = .ok (.iload_n 2, 1) := by decide +kernel
theorem dX4_badBills_58 : decode cX4_badBills 58 = .ok (.ireturn, 1) := by decide +kernel
theorem dX4_trainWeight_0 : decode cX4_trainWeight 0 = .ok (.iconst 0, 1) := by decide +kernel
theorem dX4_trainWeight_1 : decode cX4_trainWeight 1 = .ok (.istore_n 2, 1) := by decide +kernel
theorem dX4_trainWeight_2 : decode cX4_trainWeight 2 = .ok (.iconst 0, 1) := by decide +kernel
theorem dX4_trainWeight_3 : decode cX4_trainWeight 3 = .ok (.istore_n 3, 1) := by decide +kernel
theorem dX4_trainWeight_4 : decode cX4_trainWeight 4 = .ok (.iload_n 3, 1) := by decide +kernel
theorem dX4_trainWeight_5 : decode cX4_trainWeight 5 = .ok (.aload_n 0, 1) := by decide +kernel
theorem dX4_trainWeight_6 : decode cX4_trainWeight 6 = .ok (.getfield 99, 3) := by decide +kernel
theorem dX4_trainWeight_9 : decode cX4_trainWeight 9 = .ok (.if_icmp .ge 43, 3) := by decide +kernel
theorem dX4_trainWeight_12 : decode cX4_trainWeight 12 = .ok (.iload_n 2, 1) := by decide +kernel
theorem dX4_trainWeight_13 : decode cX4_trainWeight 13 = .ok (.aload_n 0, 1) := by decide +kernel
theorem dX4_trainWeight_14 : decode cX4_trainWeight 14 = .ok (.aload_n 0, 1) := by decide +kernel
theorem dX4_trainWeight_15 : decode cX4_trainWeight 15 = .ok (.getfield 56, 3) := by decide +kernel
theorem dX4_trainWeight_18 : decode cX4_trainWeight 18 = .ok (.iload_n 3, 1) := by decide +kernel
theorem dX4_trainWeight_19 : decode cX4_trainWeight 19 = .ok (.iaload, 1) := by decide +kernel
theorem dX4_trainWeight_20 : decode cX4_trainWeight 20 = .ok (.invokevirtual 200, 3) := by decide +kernel
theorem dX4_trainWeight_23 : decode cX4_trainWeight 23 = .ok (.iload_n 1, 1) := by decide +kernel
theorem dX4_trainWeight_24 : decode cX4_trainWeight 24 = .ok (.if_icmp .ne 19, 3) := by decide +kernel
theorem dX4_trainWeight_27 : decode cX4_trainWeight 27 = .ok (.aload_n 0, 1) := by decide +kernel
theorem dX4_trainWeight_28 : decode cX4_trainWeight 28 = .ok (.getfield 28, 3) := by decide +kernel
theorem dX4_trainWeight_31 : decode cX4_trainWeight 31 = .ok (.aload_n 0, 1) := by decide +kernel
theorem dX4_trainWeight_32 : decode cX4_trainWeight 32 = .ok (.getfield 56, 3) := by decide +kernel
theorem dX4_trainWeight_35 : decode cX4_trainWeight 35 = .ok (.iload_n 3, 1) := by decide +kernel
theorem dX4_trainWeight_36 : decode cX4_trainWeight 36 = .ok (.iaload, 1) := by decide +kernel
theorem dX4_trainWeight_37 : decode cX4_trainWeight 37 = .ok (.invokestatic 115, 3) := by decide +kernel
theorem dX4_trainWeight_40 : decode cX4_trainWeight 40 = .ok (.goto 4, 3) := by decide +kernel
theorem dX4_trainWeight_43 : decode cX4_trainWeight 43 = .ok (.iconst 0, 1) := by decide +kernel
theorem dX4_trainWeight_44 : decode cX4_trainWeight 44 = .ok (.iadd, 1) := by decide +kernel
theorem dX4_trainWeight_45 : decode cX4_trainWeight 45 = .ok (.istore_n 2, 1) := by decide +kernel
theorem dX4_trainWeight_46 : decode cX4_trainWeight 46 = .ok (.iinc 3 1, 3) := by decide +kernel
theorem dX4_trainWeight_49 : decode cX4_trainWeight 49 = .ok (.goto (-45), 3) := by decide +kernel
theorem dX4_trainWeight_52 : decode cX4_trainWeight 52 = .ok (.iload_n 2, 1) := by decide +kernel
theorem dX4_trainWeight_53 : decode cX4_trainWeight 53 = .ok (.ireturn, 1) := by decide +kernel
theorem dX4_about_0 : decode cX4_about 0 = .ok (.aload_n 0, 1) := by decide +kernel
theorem dX4_about_1 : decode cX4_about 1 = .ok (.iload_n 1, 1) := by decide +kernel
theorem dX4_about_2 : decode cX4_about 2 = .ok (.i2l, 1) := by decide +kernel
theorem dX4_about_3 : decode cX4_about 3 = .ok (.lconst 0, 1) := by decide +kernel
theorem dX4_about_4 : decode cX4_about 4 = .ok (.ldc2_w 173, 3) := by decide +kernel
theorem dX4_about_7 : decode cX4_about 7 = .ok (.invokestatic 118, 3) := by decide +kernel
theorem dX4_about_10 : decode cX4_about 10 = .ok (.ifCond .eq 7, 3) := by decide +kernel
theorem dX4_about_13 : decode cX4_about 13 = .ok (.iconst 0, 1) := by decide +kernel
theorem dX4_about_14 : decode cX4_about 14 = .ok (.goto 4, 3) := by decide +kernel
theorem dX4_about_17 : decode cX4_about 17 = .ok (.iconst 1, 1) := by decide +kernel
theorem dX4_about_18 : decode cX4_about 18 = .ok (.invokevirtual 134, 3) := by decide +kernel
theorem dX4_about_21 : decode cX4_about 21 = .ok (.ifCond .eq 5, 3) := by decide +kernel
theorem dX4_about_24 : decode cX4_about 24 = .ok (.iconst 0, 1) := by decide +kernel
theorem dX4_about_25 : decode cX4_about 25 = .ok (.ireturn, 1) := by decide +kernel
theorem dX4_about_26 : decode cX4_about 26 = .ok (.aload_n 0, 1) := by decide +kernel
theorem dX4_about_27 : decode cX4_about 27 = .ok (.aload_n 0, 1) := by decide +kernel
theorem dX4_about_28 : decode cX4_about 28 = .ok (.getfield 28, 3) := by decide +kernel
theorem dX4_about_31 : decode cX4_about 31 = .ok (.invokevirtual 125, 3) := by decide +kernel
theorem dX4_about_34 : decode cX4_about 34 = .ok (.iload_n 1, 1) := by decide +kernel
theorem dX4_about_35 : decode cX4_about 35 = .ok (.tableswitch 92 0 6 #[41, 48, 53, 58, 72, 81, 86], 41) := by decide +kernel
theorem dX4_about_76 : decode cX4_about 76 = .ok (.aload_n 0, 1) := by decide +kernel
theorem dX4_about_77 : decode cX4_about 77 = .ok (.getfield 28, 3) := by decide +kernel
theorem dX4_about_80 : decode cX4_about 80 = .ok (.iconst 0, 1) := by decide +kernel
theorem dX4_about_81 : decode cX4_about 81 = .ok (.iaload, 1) := by decide +kernel
theorem dX4_about_82 : decode cX4_about 82 = .ok (.ireturn, 1) := by decide +kernel
theorem dX4_about_83 : decode cX4_about 83 = .ok (.aload_n 0, 1) := by decide +kernel
theorem dX4_about_84 : decode cX4_about 84 = .ok (.getfield 102, 3) := by decide +kernel
theorem dX4_about_87 : decode cX4_about 87 = .ok (.ireturn, 1) := by decide +kernel
theorem dX4_about_88 : decode cX4_about 88 = .ok (.aload_n 0, 1) := by decide +kernel
theorem dX4_about_89 : decode cX4_about 89 = .ok (.getfield 99, 3) := by decide +kernel
theorem dX4_about_92 : decode cX4_about 92 = .ok (.ireturn, 1) := by decide +kernel
theorem dX4_about_93 : decode cX4_about 93 = .ok (.aload_n 0, 1) := by decide +kernel
theorem dX4_about_94 : decode cX4_about 94 = .ok (.getfield 28, 3) := by decide +kernel
theorem dX4_about_97 : decode cX4_about 97 = .ok (.iconst 0, 1) := by decide +kernel
theorem dX4_about_98 : decode cX4_about 98 = .ok (.iaload, 1) := by decide +kernel
theorem dX4_about_99 : decode cX4_about 99 = .ok (.iconst 2, 1) := by decide +kernel
theorem dX4_about_100 : decode cX4_about 100 = .ok (.aload_n 0, 1) := by decide +kernel
theorem dX4_about_101 : decode cX4_about 101 = .ok (.getfield 99, 3) := by decide +kernel
theorem dX4_about_104 : decode cX4_about 104 = .ok (.imul, 1) := by decide +kernel
theorem dX4_about_105 : decode cX4_about 105 = .ok (.isub, 1) := by decide +kernel
theorem dX4_about_106 : decode cX4_about 106 = .ok (.ireturn, 1) := by decide +kernel
theorem dX4_about_107 : decode cX4_about 107 = .ok (.aload_n 0, 1) := by decide +kernel
theorem dX4_about_108 : decode cX4_about 108 = .ok (.aload_n 0, 1) := by decide +kernel
theorem dX4_about_109 : decode cX4_about 109 = .ok (.getfield 28, 3) := by decide +kernel
theorem dX4_about_112 : decode cX4_about 112 = .ok (.invokevirtual 203, 3) := by decide +kernel
theorem dX4_about_115 : decode cX4_about 115 = .ok (.ireturn, 1) := by decide +kernel
theorem dX4_about_116 : decode cX4_about 116 = .ok (.aload_n 0, 1) := by decide +kernel
theorem dX4_about_117 : decode cX4_about 117 = .ok (.getfield 105, 3) := by decide +kernel
theorem dX4_about_120 : decode cX4_about 120 = .ok (.ireturn, 1) := by decide +kernel
theorem dX4_about_121 : decode cX4_about 121 = .ok (.aload_n 0, 1) := by decide +kernel
theorem dX4_about_122 : decode cX4_about 122 = .ok (.iconst 1, 1) := by decide +kernel
theorem dX4_about_123 : decode cX4_about 123 = .ok (.invokevirtual 207, 3) := by decide +kernel
theorem dX4_about_126 : decode cX4_about 126 = .ok (.ireturn, 1) := by decide +kernel
theorem dX4_about_127 : decode cX4_about 127 = .ok (.aload_n 0, 1) := by decide +kernel
theorem dX4_about_128 : decode cX4_about 128 = .ok (.iconst 0, 1) := by decide +kernel
theorem dX4_about_129 : decode cX4_about 129 = .ok (.invokevirtual 207, 3) := by decide +kernel
theorem dX4_about_132 : decode cX4_about 132 = .ok (.ireturn, 1) := by decide +kernel
theorem dX4_isAxle_0 : decode cX4_isAxle 0 = .ok (.iload_n 1, 1) := by decide +kernel
theorem dX4_isAxle_1 : decode cX4_isAxle 1 = .ok (.i2l, 1) := by decide +kernel
theorem dX4_isAxle_2 : decode cX4_isAxle 2 = .ok (.lconst 0, 1) := by decide +kernel
theorem dX4_isAxle_3 : decode cX4_isAxle 3 = .ok (.aload_n 0, 1) := by decide +kernel
theorem dX4_isAxle_4 : decode cX4_isAxle 4 = .ok (.getfield 28, 3) := by decide +kernel
theorem dX4_isAxle_7 : decode cX4_isAxle 7 = .ok (.iconst 0, 1) := by decide +kernel
theorem dX4_isAxle_8 : decode cX4_isAxle 8 = .ok (.iaload, 1) := by decide +kernel
theorem dX4_isAxle_9 : decode cX4_isAxle 9 = .ok (.iconst 1, 1) := by decide +kernel
theorem dX4_isAxle_10 : decode cX4_isAxle 10 = .ok (.isub, 1) := by decide +kernel
theorem dX4_isAxle_11 : decode cX4_isAxle 11 = .ok (.i2l, 1) := by decide +kernel
theorem dX4_isAxle_12 : decode cX4_isAxle 12 = .ok (.invokestatic 118, 3) := by decide +kernel
theorem dX4_isAxle_15 : decode cX4_isAxle 15 = .ok (.ireturn, 1) := by decide +kernel
theorem dX4_axle_0 : decode cX4_axle 0 = .ok (.aload_n 0, 1) := by decide +kernel
theorem dX4_axle_1 : decode cX4_axle 1 = .ok (.aload_n 0, 1) := by decide +kernel
theorem dX4_axle_2 : decode cX4_axle 2 = .ok (.iload_n 1, 1) := by decide +kernel
theorem dX4_axle_3 : decode cX4_axle 3 = .ok (.invokevirtual 211, 3) := by decide +kernel
theorem dX4_axle_6 : decode cX4_axle 6 = .ok (.ifCond .ne 7, 3) := by decide +kernel
theorem dX4_axle_9 : decode cX4_axle 9 = .ok (.iconst 1, 1) := by decide +kernel
theorem dX4_axle_10 : decode cX4_axle 10 = .ok (.goto 20, 3) := by decide +kernel
theorem dX4_axle_13 : decode cX4_axle 13 = .ok (.iload_n 2, 1) := by decide +kernel
theorem dX4_axle_14 : decode cX4_axle 14 = .ok (.i2l, 1) := by decide +kernel
theorem dX4_axle_15 : decode cX4_axle 15 = .ok (.lconst 0, 1) := by decide +kernel
theorem dX4_axle_16 : decode cX4_axle 16 = .ok (.ldc2_w 214, 3) := by decide +kernel
theorem dX4_axle_19 : decode cX4_axle 19 = .ok (.invokestatic 118, 3) := by decide +kernel
theorem dX4_axle_22 : decode cX4_axle 22 = .ok (.ifCond .eq 7, 3) := by decide +kernel
theorem dX4_axle_25 : decode cX4_axle 25 = .ok (.iconst 0, 1) := by decide +kernel
theorem dX4_axle_26 : decode cX4_axle 26 = .ok (.goto 4, 3) := by decide +kernel
theorem dX4_axle_29 : decode cX4_axle 29 = .ok (.iconst 2, 1) := by decide +kernel
theorem dX4_axle_30 : decode cX4_axle 30 = .ok (.invokevirtual 134, 3) := by decide +kernel
theorem dX4_axle_33 : decode cX4_axle 33 = .ok (.ifCond .eq 5, 3) := by decide +kernel
theorem dX4_axle_36 : decode cX4_axle 36 = .ok (.iconst 0, 1) := by decide +kernel
theorem dX4_axle_37 : decode cX4_axle 37 = .ok (.ireturn, 1) := by decide +kernel
theorem dX4_axle_38 : decode cX4_axle 38 = .ok (.aload_n 0, 1) := by decide +kernel
theorem dX4_axle_39 : decode cX4_axle 39 = .ok (.aload_n 0, 1) := by decide +kernel
theorem dX4_axle_40 : decode cX4_axle 40 = .ok (.getfield 28, 3) := by decide +kernel
theorem dX4_axle_43 : decode cX4_axle 43 = .ok (.invokevirtual 125, 3) := by decide +kernel
theorem dX4_axle_46 : decode cX4_axle 46 = .ok (.iload_n 2, 1) := by decide +kernel
theorem dX4_axle_47 : decode cX4_axle 47 = .ok (.ifCond .ne 15, 3) := by decide +kernel
theorem dX4_axle_50 : decode cX4_axle 50 = .ok (.aload_n 0, 1) := by decide +kernel
theorem dX4_axle_51 : decode cX4_axle 51 = .ok (.getfield 28, 3) := by decide +kernel
theorem dX4_axle_54 : decode cX4_axle 54 = .ok (.bipush 35, 2) := by decide +kernel
theorem dX4_axle_56 : decode cX4_axle 56 = .ok (.iload_n 1, 1) := by decide +kernel
theorem dX4_axle_57 : decode cX4_axle 57 = .ok (.iadd, 1) := by decide +kernel
theorem dX4_axle_58 : decode cX4_axle 58 = .ok (.iaload, 1) := by decide +kernel
theorem dX4_axle_59 : decode cX4_axle 59 = .ok (.goto 38, 3) := by decide +kernel
theorem dX4_axle_62 : decode cX4_axle 62 = .ok (.iload_n 2, 1) := by decide +kernel
theorem dX4_axle_63 : decode cX4_axle 63 = .ok (.iconst 1, 1) := by decide +kernel
theorem dX4_axle_64 : decode cX4_axle 64 = .ok (.if_icmp .ne 15, 3) := by decide +kernel
theorem dX4_axle_67 : decode cX4_axle 67 = .ok (.aload_n 0, 1) := by decide +kernel
theorem dX4_axle_68 : decode cX4_axle 68 = .ok (.getfield 28, 3) := by decide +kernel
theorem dX4_axle_71 : decode cX4_axle 71 = .ok (.bipush 65, 2) := by decide +kernel
theorem dX4_axle_73 : decode cX4_axle 73 = .ok (.iload_n 1, 1) := by decide +kernel
theorem dX4_axle_74 : decode cX4_axle 74 = .ok (.iadd, 1) := by decide +kernel
theorem dX4_axle_75 : decode cX4_axle 75 = .ok (.iaload, 1) := by decide +kernel
theorem dX4_axle_76 : decode cX4_axle 76 = .ok (.goto 21, 3) := by decide +kernel
theorem dX4_axle_79 : decode cX4_axle 79 = .ok (.iload_n 2, 1) := by decide +kernel
theorem dX4_axle_80 : decode cX4_axle 80 = .ok (.iconst 2, 1) := by decide +kernel
theorem dX4_axle_81 : decode cX4_axle 81 = .ok (.if_icmp .ne 11, 3) := by decide +kernel
theorem dX4_axle_84 : decode cX4_axle 84 = .ok (.aload_n 0, 1) := by decide +kernel
theorem dX4_axle_85 : decode cX4_axle 85 = .ok (.iload_n 1, 1) := by decide +kernel
theorem dX4_axle_86 : decode cX4_axle 86 = .ok (.invokevirtual 200, 3) := by decide +kernel
theorem dX4_axle_89 : decode cX4_axle 89 = .ok (.goto 8, 3) := by decide +kernel
theorem dX4_axle_92 : decode cX4_axle 92 = .ok (.aload_n 0, 1) := by decide +kernel
theorem dX4_axle_93 : decode cX4_axle 93 = .ok (.iload_n 1, 1) := by decide +kernel
theorem dX4_axle_94 : decode cX4_axle 94 = .ok (.invokevirtual 216, 3) := by decide +kernel
theorem dX4_axle_97 : decode cX4_axle 97 = .ok (.ireturn, 1) := by decide +kernel
theorem dX4_speed_0 : decode cX4_speed 0 = .ok (.sipush 600, 3) := by decide +kernel
theorem dX4_speed_3 : decode cX4_speed 3 = .ok (.aload_n 0, 1) := by decide +kernel
theorem dX4_speed_4 : decode cX4_speed 4 = .ok (.getfield 28, 3) := by decide +kernel
theorem dX4_speed_7 : decode cX4_speed 7 = .ok (.bipush 35, 2) := by decide +kernel
theorem dX4_speed_9 : decode cX4_speed 9 = .ok (.aload_n 0, 1) := by decide +kernel
theorem dX4_speed_10 : decode cX4_speed 10 = .ok (.getfield 56, 3) := by decide +kernel
theorem dX4_speed_13 : decode cX4_speed 13 = .ok (.iload_n 1, 1) := by decide +kernel
theorem dX4_speed_14 : decode cX4_speed 14 = .ok (.iaload, 1) := by decide +kernel
theorem dX4_speed_15 : decode cX4_speed 15 = .ok (.iadd, 1) := by decide +kernel
theorem dX4_speed_16 : decode cX4_speed 16 = .ok (.iconst 1, 1) := by decide +kernel
theorem dX4_speed_17 : decode cX4_speed 17 = .ok (.iadd, 1) := by decide +kernel
theorem dX4_speed_18 : decode cX4_speed 18 = .ok (.iaload, 1) := by decide +kernel
theorem dX4_speed_19 : decode cX4_speed 19 = .ok (.idiv, 1) := by decide +kernel
theorem dX4_speed_20 : decode cX4_speed 20 = .ok (.ireturn, 1) := by decide +kernel
theorem dX4_between_0 : decode cX4_between 0 = .ok (.iload_n 1, 1) := by decide +kernel
theorem dX4_between_1 : decode cX4_between 1 = .ok (.ifCond .eq 28, 3) := by decide +kernel
theorem dX4_between_4 : decode cX4_between 4 = .ok (.aload_n 0, 1) := by decide +kernel
theorem dX4_between_5 : decode cX4_between 5 = .ok (.aload_n 0, 1) := by decide +kernel
theorem dX4_between_6 : decode cX4_between 6 = .ok (.getfield 56, 3) := by decide +kernel
theorem dX4_between_9 : decode cX4_between 9 = .ok (.iload_n 1, 1) := by decide +kernel
theorem dX4_between_10 : decode cX4_between 10 = .ok (.iconst 1, 1) := by decide +kernel
theorem dX4_between_11 : decode cX4_between 11 = .ok (.isub, 1) := by decide +kernel
theorem dX4_between_12 : decode cX4_between 12 = .ok (.iaload, 1) := by decide +kernel
theorem dX4_between_13 : decode cX4_between 13 = .ok (.invokevirtual 200, 3) := by decide +kernel
theorem dX4_between_16 : decode cX4_between 16 = .ok (.aload_n 0, 1) := by decide +kernel
theorem dX4_between_17 : decode cX4_between 17 = .ok (.aload_n 0, 1) := by decide +kernel
theorem dX4_between_18 : decode cX4_between 18 = .ok (.getfield 56, 3) := by decide +kernel
theorem dX4_between_21 : decode cX4_between 21 = .ok (.iload_n 1, 1) := by decide +kernel
theorem dX4_between_22 : decode cX4_between 22 = .ok (.iaload, 1) := by decide +kernel
theorem dX4_between_23 : decode cX4_between 23 = .ok (.invokevirtual 200, 3) := by decide +kernel
theorem dX4_between_26 : decode cX4_between 26 = .ok (.if_icmp .eq 7, 3) := by decide +kernel
theorem dX4_between_29 : decode cX4_between 29 = .ok (.iconst 1, 1) := by decide +kernel
theorem dX4_between_30 : decode cX4_between 30 = .ok (.goto 4, 3) := by decide +kernel
theorem dX4_between_33 : decode cX4_between 33 = .ok (.iconst 0, 1) := by decide +kernel
theorem dX4_between_34 : decode cX4_between 34 = .ok (.istore_n 2, 1) := by decide +kernel
theorem dX4_between_35 : decode cX4_between 35 = .ok (.iload_n 2, 1) := by decide +kernel
theorem dX4_between_36 : decode cX4_between 36 = .ok (.ifCond .eq 7, 3) := by decide +kernel
theorem dX4_between_39 : decode cX4_between 39 = .ok (.iconst (-1), 1) := by decide +kernel
theorem dX4_between_40 : decode cX4_between 40 = .ok (.goto 30, 3) := by decide +kernel
theorem dX4_between_43 : decode cX4_between 43 = .ok (.aload_n 0, 1) := by decide +kernel
theorem dX4_between_44 : decode cX4_between 44 = .ok (.getfield 47, 3) := by decide +kernel
theorem dX4_between_47 : decode cX4_between 47 = .ok (.aload_n 0, 1) := by decide +kernel
theorem dX4_between_48 : decode cX4_between 48 = .ok (.getfield 56, 3) := by decide +kernel
theorem dX4_between_51 : decode cX4_between 51 = .ok (.iload_n 1, 1) := by decide +kernel
theorem dX4_between_52 : decode cX4_between 52 = .ok (.iaload, 1) := by decide +kernel
theorem dX4_between_53 : decode cX4_between 53 = .ok (.iaload, 1) := by decide +kernel
theorem dX4_between_54 : decode cX4_between 54 = .ok (.aload_n 0, 1) := by decide +kernel
theorem dX4_between_55 : decode cX4_between 55 = .ok (.getfield 47, 3) := by decide +kernel
theorem dX4_between_58 : decode cX4_between 58 = .ok (.aload_n 0, 1) := by decide +kernel
theorem dX4_between_59 : decode cX4_between 59 = .ok (.getfield 56, 3) := by decide +kernel
theorem dX4_between_62 : decode cX4_between 62 = .ok (.iload_n 1, 1) := by decide +kernel
theorem dX4_between_63 : decode cX4_between 63 = .ok (.iconst 1, 1) := by decide +kernel
theorem dX4_between_64 : decode cX4_between 64 = .ok (.isub, 1) := by decide +kernel
theorem dX4_between_65 : decode cX4_between 65 = .ok (.iaload, 1) := by decide +kernel
theorem dX4_between_66 : decode cX4_between 66 = .ok (.iconst 1, 1) := by decide +kernel
theorem dX4_between_67 : decode cX4_between 67 = .ok (.iadd, 1) := by decide +kernel
theorem dX4_between_68 : decode cX4_between 68 = .ok (.iaload, 1) := by decide +kernel
theorem dX4_between_69 : decode cX4_between 69 = .ok (.isub, 1) := by decide +kernel
theorem dX4_between_70 : decode cX4_between 70 = .ok (.ireturn, 1) := by decide +kernel
theorem dX4_car_0 : decode cX4_car 0 = .ok (.aload_n 0, 1) := by decide +kernel
theorem dX4_car_1 : decode cX4_car 1 = .ok (.aload_n 0, 1) := by decide +kernel
theorem dX4_car_2 : decode cX4_car 2 = .ok (.getfield 28, 3) := by decide +kernel
theorem dX4_car_5 : decode cX4_car 5 = .ok (.invokevirtual 125, 3) := by decide +kernel
theorem dX4_car_8 : decode cX4_car 8 = .ok (.aload_n 0, 1) := by decide +kernel
theorem dX4_car_9 : decode cX4_car 9 = .ok (.iload_n 1, 1) := by decide +kernel
theorem dX4_car_10 : decode cX4_car 10 = .ok (.i2l, 1) := by decide +kernel
theorem dX4_car_11 : decode cX4_car 11 = .ok (.lconst 0, 1) := by decide +kernel
theorem dX4_car_12 : decode cX4_car 12 = .ok (.aload_n 0, 1) := by decide +kernel
theorem dX4_car_13 : decode cX4_car 13 = .ok (.getfield 99, 3) := by decide +kernel
theorem dX4_car_16 : decode cX4_car 16 = .ok (.iconst 1, 1) := by decide +kernel
theorem dX4_car_17 : decode cX4_car 17 = .ok (.isub, 1) := by decide +kernel
theorem dX4_car_18 : decode cX4_car 18 = .ok (.i2l, 1) := by decide +kernel
theorem dX4_car_19 : decode cX4_car 19 = .ok (.invokestatic 118, 3) := by decide +kernel
theorem dX4_car_22 : decode cX4_car 22 = .ok (.ifCond .ne 7, 3) := by decide +kernel
theorem dX4_car_25 : decode cX4_car 25 = .ok (.iconst 1, 1) := by decide +kernel
theorem dX4_car_26 : decode cX4_car 26 = .ok (.goto 20, 3) := by decide +kernel
theorem dX4_car_29 : decode cX4_car 29 = .ok (.iload_n 2, 1) := by decide +kernel
theorem dX4_car_30 : decode cX4_car 30 = .ok (.i2l, 1) := by decide +kernel
theorem dX4_car_31 : decode cX4_car 31 = .ok (.lconst 0, 1) := by decide +kernel
theorem dX4_car_32 : decode cX4_car 32 = .ok (.ldc2_w 219, 3) := by decide +kernel
theorem dX4_car_35 : decode cX4_car 35 = .ok (.invokestatic 118, 3) := by decide +kernel
theorem dX4_car_38 : decode cX4_car 38 = .ok (.ifCond .eq 7, 3) := by decide +kernel
theorem dX4_car_41 : decode cX4_car 41 = .ok (.iconst 0, 1) := by decide +kernel
theorem dX4_car_42 : decode cX4_car 42 = .ok (.goto 4, 3) := by decide +kernel
theorem dX4_car_45 : decode cX4_car 45 = .ok (.iconst 2, 1) := by decide +kernel
theorem dX4_car_46 : decode cX4_car 46 = .ok (.invokevirtual 134, 3) := by decide +kernel
theorem dX4_car_49 : decode cX4_car 49 = .ok (.ifCond .eq 5, 3) := by decide +kernel
theorem dX4_car_52 : decode cX4_car 52 = .ok (.iconst 0, 1) := by decide +kernel
theorem dX4_car_53 : decode cX4_car 53 = .ok (.ireturn, 1) := by decide +kernel
theorem dX4_car_54 : decode cX4_car 54 = .ok (.iload_n 2, 1) := by decide +kernel
theorem dX4_car_55 : decode cX4_car 55 = .ok (.tableswitch 88 0 4 #[33, 40, 54, 71, 77], 33) := by decide +kernel
theorem dX4_car_88 : decode cX4_car 88 = .ok (.aload_n 0, 1) := by decide +kernel
theorem dX4_car_89 : decode cX4_car 89 = .ok (.getfield 56, 3) := by decide +kernel
theorem dX4_car_92 : decode cX4_car 92 = .ok (.iload_n 1, 1) := by decide +kernel
theorem dX4_car_93 : decode cX4_car 93 = .ok (.iaload, 1) := by decide +kernel
theorem dX4_car_94 : decode cX4_car 94 = .ok (.ireturn, 1) := by decide +kernel
theorem dX4_car_95 : decode cX4_car 95 = .ok (.aload_n 0, 1) := by decide +kernel
theorem dX4_car_96 : decode cX4_car 96 = .ok (.getfield 28, 3) := by decide +kernel
theorem dX4_car_99 : decode cX4_car 99 = .ok (.aload_n 0, 1) := by decide +kernel
theorem dX4_car_100 : decode cX4_car 100 = .ok (.getfield 56, 3) := by decide +kernel
theorem dX4_car_103 : decode cX4_car 103 = .ok (.iload_n 1, 1) := by decide +kernel
theorem dX4_car_104 : decode cX4_car 104 = .ok (.iaload, 1) := by decide +kernel
theorem dX4_car_105 : decode cX4_car 105 = .ok (.invokestatic 115, 3) := by decide +kernel
theorem dX4_car_108 : decode cX4_car 108 = .ok (.ireturn, 1) := by decide +kernel
theorem dX4_car_109 : decode cX4_car 109 = .ok (.aload_n 0, 1) := by decide +kernel
theorem dX4_car_110 : decode cX4_car 110 = .ok (.getfield 28, 3) := by decide +kernel
theorem dX4_car_113 : decode cX4_car 113 = .ok (.bipush 35, 2) := by decide +kernel
theorem dX4_car_115 : decode cX4_car 115 = .ok (.aload_n 0, 1) := by decide +kernel
theorem dX4_car_116 : decode cX4_car 116 = .ok (.getfield 56, 3) := by decide +kernel
theorem dX4_car_119 : decode cX4_car 119 = .ok (.iload_n 1, 1) := by decide +kernel
theorem dX4_car_120 : decode cX4_car 120 = .ok (.iaload, 1) := by decide +kernel
theorem dX4_car_121 : decode cX4_car 121 = .ok (.iadd, 1) := by decide +kernel
theorem dX4_car_122 : decode cX4_car 122 = .ok (.iconst 1, 1) := by decide +kernel
theorem dX4_car_123 : decode cX4_car 123 = .ok (.iadd, 1) := by decide +kernel
theorem dX4_car_124 : decode cX4_car 124 = .ok (.iaload, 1) := by decide +kernel
theorem dX4_car_125 : decode cX4_car 125 = .ok (.ireturn, 1) := by decide +kernel
theorem dX4_car_126 : decode cX4_car 126 = .ok (.aload_n 0, 1) := by decide +kernel
theorem dX4_car_127 : decode cX4_car 127 = .ok (.iload_n 1, 1) := by decide +kernel
theorem dX4_car_128 : decode cX4_car 128 = .ok (.invokevirtual 221, 3) := by decide +kernel
theorem dX4_car_131 : decode cX4_car 131 = .ok (.ireturn, 1) := by decide +kernel
theorem dX4_car_132 : decode cX4_car 132 = .ok (.aload_n 0, 1) := by decide +kernel
theorem dX4_car_133 : decode cX4_car 133 = .ok (.aload_n 0, 1) := by decide +kernel
theorem dX4_car_134 : decode cX4_car 134 = .ok (.getfield 56, 3) := by decide +kernel
theorem dX4_car_137 : decode cX4_car 137 = .ok (.iload_n 1, 1) := by decide +kernel
theorem dX4_car_138 : decode cX4_car 138 = .ok (.iaload, 1) := by decide +kernel
theorem dX4_car_139 : decode cX4_car 139 = .ok (.invokevirtual 200, 3) := by decide +kernel
theorem dX4_car_142 : decode cX4_car 142 = .ok (.ireturn, 1) := by decide +kernel
theorem dX4_car_143 : decode cX4_car 143 = .ok (.aload_n 0, 1) := by decide +kernel
theorem dX4_car_144 : decode cX4_car 144 = .ok (.iload_n 1, 1) := by decide +kernel
theorem dX4_car_145 : decode cX4_car 145 = .ok (.invokevirtual 224, 3) := by decide +kernel
theorem dX4_car_148 : decode cX4_car 148 = .ok (.ireturn, 1) := by decide +kernel
theorem dX4_carsOf_0 : decode cX4_carsOf 0 = .ok (.iconst 0, 1) := by decide +kernel
theorem dX4_carsOf_1 : decode cX4_carsOf 1 = .ok (.istore_n 2, 1) := by decide +kernel
theorem dX4_carsOf_2 : decode cX4_carsOf 2 = .ok (.iconst 0, 1) := by decide +kernel
theorem dX4_carsOf_3 : decode cX4_carsOf 3 = .ok (.istore_n 3, 1) := by decide +kernel
theorem dX4_carsOf_4 : decode cX4_carsOf 4 = .ok (.iload_n 3, 1) := by decide +kernel
theorem dX4_carsOf_5 : decode cX4_carsOf 5 = .ok (.aload_n 0, 1) := by decide +kernel
theorem dX4_carsOf_6 : decode cX4_carsOf 6 = .ok (.getfield 99, 3) := by decide +kernel
theorem dX4_carsOf_9 : decode cX4_carsOf 9 = .ok (.if_icmp .ge 31, 3) := by decide +kernel
theorem dX4_carsOf_12 : decode cX4_carsOf 12 = .ok (.iload_n 2, 1) := by decide +kernel
theorem dX4_carsOf_13 : decode cX4_carsOf 13 = .ok (.aload_n 0, 1) := by decide +kernel
theorem dX4_carsOf_14 : decode cX4_carsOf 14 = .ok (.aload_n 0, 1) := by decide +kernel
theorem dX4_carsOf_15 : decode cX4_carsOf 15 = .ok (.getfield 56, 3) := by decide +kernel
theorem dX4_carsOf_18 : decode cX4_carsOf 18 = .ok (.iload_n 3, 1) := by decide +kernel
theorem dX4_carsOf_19 : decode cX4_carsOf 19 = .ok (.iaload, 1) := by decide +kernel
theorem dX4_carsOf_20 : decode cX4_carsOf 20 = .ok (.invokevirtual 200, 3) := by decide +kernel
theorem dX4_carsOf_23 : decode cX4_carsOf 23 = .ok (.iload_n 1, 1) := by decide +kernel
theorem dX4_carsOf_24 : decode cX4_carsOf 24 = .ok (.if_icmp .ne 7, 3) := by decide +kernel
theorem dX4_carsOf_27 : decode cX4_carsOf 27 = .ok (.iconst 1, 1) := by decide +kernel
theorem dX4_carsOf_28 : decode cX4_carsOf 28 = .ok (.goto 4, 3) := by decide +kernel
theorem dX4_carsOf_31 : decode cX4_carsOf 31 = .ok (.iconst 0, 1) := by decide +kernel
theorem dX4_carsOf_32 : decode cX4_carsOf 32 = .ok (.iadd, 1) := by decide +kernel
theorem dX4_carsOf_33 : decode cX4_carsOf 33 = .ok (.istore_n 2, 1) := by decide +kernel
theorem dX4_carsOf_34 : decode cX4_carsOf 34 = .ok (.iinc 3 1, 3) := by decide +kernel
theorem dX4_carsOf_37 : decode cX4_carsOf 37 = .ok (.goto (-33), 3) := by decide +kernel
theorem dX4_carsOf_40 : decode cX4_carsOf 40 = .ok (.iload_n 2, 1) := by decide +kernel
theorem dX4_carsOf_41 : decode cX4_carsOf 41 = .ok (.ireturn, 1) := by decide +kernel
theorem dX4_heaviest_0 : decode cX4_heaviest 0 = .ok (.iconst (-1), 1) := by decide +kernel
theorem dX4_heaviest_1 : decode cX4_heaviest 1 = .ok (.istore_n 2, 1) := by decide +kernel
theorem dX4_heaviest_2 : decode cX4_heaviest 2 = .ok (.iconst 0, 1) := by decide +kernel
theorem dX4_heaviest_3 : decode cX4_heaviest 3 = .ok (.istore_n 3, 1) := by decide +kernel
theorem dX4_heaviest_4 : decode cX4_heaviest 4 = .ok (.iload_n 3, 1) := by decide +kernel
theorem dX4_heaviest_5 : decode cX4_heaviest 5 = .ok (.aload_n 0, 1) := by decide +kernel
theorem dX4_heaviest_6 : decode cX4_heaviest 6 = .ok (.getfield 99, 3) := by decide +kernel
theorem dX4_heaviest_9 : decode cX4_heaviest 9 = .ok (.if_icmp .ge 51, 3) := by decide +kernel
theorem dX4_heaviest_12 : decode cX4_heaviest 12 = .ok (.aload_n 0, 1) := by decide +kernel
theorem dX4_heaviest_13 : decode cX4_heaviest 13 = .ok (.getfield 28, 3) := by decide +kernel
theorem dX4_heaviest_16 : decode cX4_heaviest 16 = .ok (.aload_n 0, 1) := by decide +kernel
theorem dX4_heaviest_17 : decode cX4_heaviest 17 = .ok (.getfield 56, 3) := by decide +kernel
theorem dX4_heaviest_20 : decode cX4_heaviest 20 = .ok (.iload_n 3, 1) := by decide +kernel
theorem dX4_heaviest_21 : decode cX4_heaviest 21 = .ok (.iaload, 1) := by decide +kernel
theorem dX4_heaviest_22 : decode cX4_heaviest 22 = .ok (.invokestatic 115, 3) := by decide +kernel
theorem dX4_heaviest_25 : decode cX4_heaviest 25 = .ok (.istore 4, 2) := by decide +kernel
theorem dX4_heaviest_27 : decode cX4_heaviest 27 = .ok (.aload_n 0, 1) := by decide +kernel
theorem dX4_heaviest_28 : decode cX4_heaviest 28 = .ok (.aload_n 0, 1) := by decide +kernel
theorem dX4_heaviest_29 : decode cX4_heaviest 29 = .ok (.getfield 56, 3) := by decide +kernel
theorem dX4_heaviest_32 : decode cX4_heaviest 32 = .ok (.iload_n 3, 1) := by decide +kernel
theorem dX4_heaviest_33 : decode cX4_heaviest 33 = .ok (.iaload, 1) := by decide +kernel
theorem dX4_heaviest_34 : decode cX4_heaviest 34 = .ok (.invokevirtual 200, 3) := by decide +kernel
theorem dX4_heaviest_37 : decode cX4_heaviest 37 = .ok (.iload_n 1, 1) := by decide +kernel
theorem dX4_heaviest_38 : decode cX4_heaviest 38 = .ok (.if_icmp .ne 14, 3) := by decide +kernel
theorem dX4_heaviest_41 : decode cX4_heaviest 41 = .ok (.iload 4, 2) := by decide +kernel
theorem dX4_heaviest_43 : decode cX4_heaviest 43 = .ok (.iload_n 2, 1) := by decide +kernel
theorem dX4_heaviest_44 : decode cX4_heaviest 44 = .ok (.if_icmp .le 8, 3) := by decide +kernel
theorem dX4_heaviest_47 : decode cX4_heaviest 47 = .ok (.iload 4, 2) := by decide +kernel
theorem dX4_heaviest_49 : decode cX4_heaviest 49 = .ok (.goto 4, 3) := by decide +kernel
theorem dX4_heaviest_52 : decode cX4_heaviest 52 = .ok (.iload_n 2, 1) := by decide +kernel
theorem dX4_heaviest_53 : decode cX4_heaviest 53 = .ok (.istore_n 2, 1) := by decide +kernel
theorem dX4_heaviest_54 : decode cX4_heaviest 54 = .ok (.iinc 3 1, 3) := by decide +kernel
theorem dX4_heaviest_57 : decode cX4_heaviest 57 = .ok (.goto (-53), 3) := by decide +kernel
theorem dX4_heaviest_60 : decode cX4_heaviest 60 = .ok (.iload_n 2, 1) := by decide +kernel
theorem dX4_heaviest_61 : decode cX4_heaviest 61 = .ok (.ireturn, 1) := by decide +kernel
theorem dX4_speeds_0 : decode cX4_speeds 0 = .ok (.iconst (-1), 1) := by decide +kernel
theorem dX4_speeds_1 : decode cX4_speeds 1 = .ok (.istore_n 2, 1) := by decide +kernel
theorem dX4_speeds_2 : decode cX4_speeds 2 = .ok (.sipush 601, 3) := by decide +kernel
theorem dX4_speeds_5 : decode cX4_speeds 5 = .ok (.istore_n 3, 1) := by decide +kernel
theorem dX4_speeds_6 : decode cX4_speeds 6 = .ok (.iconst 0, 1) := by decide +kernel
theorem dX4_speeds_7 : decode cX4_speeds 7 = .ok (.istore 4, 2) := by decide +kernel
theorem dX4_speeds_9 : decode cX4_speeds 9 = .ok (.iload 4, 2) := by decide +kernel
theorem dX4_speeds_11 : decode cX4_speeds 11 = .ok (.aload_n 0, 1) := by decide +kernel
theorem dX4_speeds_12 : decode cX4_speeds 12 = .ok (.getfield 99, 3) := by decide +kernel
theorem dX4_speeds_15 : decode cX4_speeds 15 = .ok (.if_icmp .ge 66, 3) := by decide +kernel
theorem dX4_speeds_18 : decode cX4_speeds 18 = .ok (.aload_n 0, 1) := by decide +kernel
theorem dX4_speeds_19 : decode cX4_speeds 19 = .ok (.aload_n 0, 1) := by decide +kernel
theorem dX4_speeds_20 : decode cX4_speeds 20 = .ok (.getfield 56, 3) := by decide +kernel
theorem dX4_speeds_23 : decode cX4_speeds 23 = .ok (.iload 4, 2) := by decide +kernel
theorem dX4_speeds_25 : decode cX4_speeds 25 = .ok (.iaload, 1) := by decide +kernel
theorem dX4_speeds_26 : decode cX4_speeds 26 = .ok (.invokevirtual 200, 3) := by decide +kernel
theorem dX4_speeds_29 : decode cX4_speeds 29 = .ok (.iload_n 1, 1) := by decide +kernel
theorem dX4_speeds_30 : decode cX4_speeds 30 = .ok (.if_icmp .ne 45, 3) := by decide +kernel
theorem dX4_speeds_33 : decode cX4_speeds 33 = .ok (.aload_n 0, 1) := by decide +kernel
theorem dX4_speeds_34 : decode cX4_speeds 34 = .ok (.iload 4, 2) := by decide +kernel
theorem dX4_speeds_36 : decode cX4_speeds 36 = .ok (.invokevirtual 221, 3) := by decide +kernel
theorem dX4_speeds_39 : decode cX4_speeds 39 = .ok (.iload_n 2, 1) := by decide +kernel
theorem dX4_speeds_40 : decode cX4_speeds 40 = .ok (.if_icmp .le 12, 3) := by decide +kernel
theorem dX4_speeds_43 : decode cX4_speeds 43 = .ok (.aload_n 0, 1) := by decide +kernel
theorem dX4_speeds_44 : decode cX4_speeds 44 = .ok (.iload 4, 2) := by decide +kernel
theorem dX4_speeds_46 : decode cX4_speeds 46 = .ok (.invokevirtual 221, 3) := by decide +kernel
theorem dX4_speeds_49 : decode cX4_speeds 49 = .ok (.goto 4, 3) := by decide +kernel
theorem dX4_speeds_52 : decode cX4_speeds 52 = .ok (.iload_n 2, 1) := by decide +kernel
theorem dX4_speeds_53 : decode cX4_speeds 53 = .ok (.istore_n 2, 1) := by decide +kernel
theorem dX4_speeds_54 : decode cX4_speeds 54 = .ok (.aload_n 0, 1) := by decide +kernel
theorem dX4_speeds_55 : decode cX4_speeds 55 = .ok (.iload 4, 2) := by decide +kernel
theorem dX4_speeds_57 : decode cX4_speeds 57 = .ok (.invokevirtual 221, 3) := by decide +kernel
theorem dX4_speeds_60 : decode cX4_speeds 60 = .ok (.iload_n 3, 1) := by decide +kernel
theorem dX4_speeds_61 : decode cX4_speeds 61 = .ok (.if_icmp .ge 12, 3) := by decide +kernel
theorem dX4_speeds_64 : decode cX4_speeds 64 = .ok (.aload_n 0, 1) := by decide +kernel
theorem dX4_speeds_65 : decode cX4_speeds 65 = .ok (.iload 4, 2) := by decide +kernel
theorem dX4_speeds_67 : decode cX4_speeds 67 = .ok (.invokevirtual 221, 3) := by decide +kernel
theorem dX4_speeds_70 : decode cX4_speeds 70 = .ok (.goto 4, 3) := by decide +kernel
theorem dX4_speeds_73 : decode cX4_speeds 73 = .ok (.iload_n 3, 1) := by decide +kernel
theorem dX4_speeds_74 : decode cX4_speeds 74 = .ok (.istore_n 3, 1) := by decide +kernel
theorem dX4_speeds_75 : decode cX4_speeds 75 = .ok (.iinc 4 1, 3) := by decide +kernel
theorem dX4_speeds_78 : decode cX4_speeds 78 = .ok (.goto (-69), 3) := by decide +kernel
theorem dX4_speeds_81 : decode cX4_speeds 81 = .ok (.iload_n 2, 1) := by decide +kernel
theorem dX4_speeds_82 : decode cX4_speeds 82 = .ok (.iconst (-1), 1) := by decide +kernel
theorem dX4_speeds_83 : decode cX4_speeds 83 = .ok (.if_icmp .ne 7, 3) := by decide +kernel
theorem dX4_speeds_86 : decode cX4_speeds 86 = .ok (.iconst (-1), 1) := by decide +kernel
theorem dX4_speeds_87 : decode cX4_speeds 87 = .ok (.goto 6, 3) := by decide +kernel
theorem dX4_speeds_90 : decode cX4_speeds 90 = .ok (.iload_n 2, 1) := by decide +kernel
theorem dX4_speeds_91 : decode cX4_speeds 91 = .ok (.iload_n 3, 1) := by decide +kernel
theorem dX4_speeds_92 : decode cX4_speeds 92 = .ok (.isub, 1) := by decide +kernel
theorem dX4_speeds_93 : decode cX4_speeds 93 = .ok (.ireturn, 1) := by decide +kernel
theorem dX4_train_0 : decode cX4_train 0 = .ok (.aload_n 0, 1) := by decide +kernel
theorem dX4_train_1 : decode cX4_train 1 = .ok (.aload_n 0, 1) := by decide +kernel
theorem dX4_train_2 : decode cX4_train 2 = .ok (.getfield 28, 3) := by decide +kernel
theorem dX4_train_5 : decode cX4_train 5 = .ok (.invokevirtual 125, 3) := by decide +kernel
theorem dX4_train_8 : decode cX4_train 8 = .ok (.aload_n 0, 1) := by decide +kernel
theorem dX4_train_9 : decode cX4_train 9 = .ok (.iload_n 1, 1) := by decide +kernel
theorem dX4_train_10 : decode cX4_train 10 = .ok (.i2l, 1) := by decide +kernel
theorem dX4_train_11 : decode cX4_train 11 = .ok (.lconst 0, 1) := by decide +kernel
theorem dX4_train_12 : decode cX4_train 12 = .ok (.aload_n 0, 1) := by decide +kernel
theorem dX4_train_13 : decode cX4_train 13 = .ok (.getfield 102, 3) := by decide +kernel
theorem dX4_train_16 : decode cX4_train 16 = .ok (.iconst 1, 1) := by decide +kernel
theorem dX4_train_17 : decode cX4_train 17 = .ok (.isub, 1) := by decide +kernel
theorem dX4_train_18 : decode cX4_train 18 = .ok (.i2l, 1) := by decide +kernel
theorem dX4_train_19 : decode cX4_train 19 = .ok (.invokestatic 118, 3) := by decide +kernel
theorem dX4_train_22 : decode cX4_train 22 = .ok (.ifCond .ne 7, 3) := by decide +kernel
theorem dX4_train_25 : decode cX4_train 25 = .ok (.iconst 1, 1) := by decide +kernel
theorem dX4_train_26 : decode cX4_train 26 = .ok (.goto 20, 3) := by decide +kernel
theorem dX4_train_29 : decode cX4_train 29 = .ok (.iload_n 2, 1) := by decide +kernel
theorem dX4_train_30 : decode cX4_train 30 = .ok (.i2l, 1) := by decide +kernel
theorem dX4_train_31 : decode cX4_train 31 = .ok (.lconst 0, 1) := by decide +kernel
theorem dX4_train_32 : decode cX4_train 32 = .ok (.ldc2_w 173, 3) := by decide +kernel
theorem dX4_train_35 : decode cX4_train 35 = .ok (.invokestatic 118, 3) := by decide +kernel
theorem dX4_train_38 : decode cX4_train 38 = .ok (.ifCond .eq 7, 3) := by decide +kernel
theorem dX4_train_41 : decode cX4_train 41 = .ok (.iconst 0, 1) := by decide +kernel
theorem dX4_train_42 : decode cX4_train 42 = .ok (.goto 4, 3) := by decide +kernel
theorem dX4_train_45 : decode cX4_train 45 = .ok (.iconst 2, 1) := by decide +kernel
theorem dX4_train_46 : decode cX4_train 46 = .ok (.invokevirtual 134, 3) := by decide +kernel
theorem dX4_train_49 : decode cX4_train 49 = .ok (.ifCond .eq 5, 3) := by decide +kernel
theorem dX4_train_52 : decode cX4_train 52 = .ok (.iconst 0, 1) := by decide +kernel
theorem dX4_train_53 : decode cX4_train 53 = .ok (.ireturn, 1) := by decide +kernel
theorem dX4_train_54 : decode cX4_train 54 = .ok (.iload_n 2, 1) := by decide +kernel
theorem dX4_train_55 : decode cX4_train 55 = .ok (.tableswitch 95 0 6 #[41, 48, 64, 70, 76, 83, 89], 41) := by decide +kernel
theorem dX4_train_96 : decode cX4_train 96 = .ok (.aload_n 0, 1) := by decide +kernel
theorem dX4_train_97 : decode cX4_train 97 = .ok (.getfield 50, 3) := by decide +kernel
theorem dX4_train_100 : decode cX4_train 100 = .ok (.iload_n 1, 1) := by decide +kernel
theorem dX4_train_101 : decode cX4_train 101 = .ok (.iaload, 1) := by decide +kernel
theorem dX4_train_102 : decode cX4_train 102 = .ok (.ireturn, 1) := by decide +kernel
theorem dX4_train_103 : decode cX4_train 103 = .ok (.aload_n 0, 1) := by decide +kernel
theorem dX4_train_104 : decode cX4_train 104 = .ok (.getfield 50, 3) := by decide +kernel
theorem dX4_train_107 : decode cX4_train 107 = .ok (.iload_n 1, 1) := by decide +kernel
theorem dX4_train_108 : decode cX4_train 108 = .ok (.iconst 1, 1) := by decide +kernel
theorem dX4_train_109 : decode cX4_train 109 = .ok (.iadd, 1) := by decide +kernel
theorem dX4_train_110 : decode cX4_train 110 = .ok (.iaload, 1) := by decide +kernel
theorem dX4_train_111 : decode cX4_train 111 = .ok (.aload_n 0, 1) := by decide +kernel
theorem dX4_train_112 : decode cX4_train 112 = .ok (.getfield 50, 3) := by decide +kernel
theorem dX4_train_115 : decode cX4_train 115 = .ok (.iload_n 1, 1) := by decide +kernel
theorem dX4_train_116 : decode cX4_train 116 = .ok (.iaload, 1) := by decide +kernel
theorem dX4_train_117 : decode cX4_train 117 = .ok (.isub, 1) := by decide +kernel
theorem dX4_train_118 : decode cX4_train 118 = .ok (.ireturn, 1) := by decide +kernel
theorem dX4_train_119 : decode cX4_train 119 = .ok (.aload_n 0, 1) := by decide +kernel
theorem dX4_train_120 : decode cX4_train 120 = .ok (.iload_n 1, 1) := by decide +kernel
theorem dX4_train_121 : decode cX4_train 121 = .ok (.invokevirtual 227, 3) := by decide +kernel
theorem dX4_train_124 : decode cX4_train 124 = .ok (.ireturn, 1) := by decide +kernel
theorem dX4_train_125 : decode cX4_train 125 = .ok (.aload_n 0, 1) := by decide +kernel
theorem dX4_train_126 : decode cX4_train 126 = .ok (.iload_n 1, 1) := by decide +kernel
theorem dX4_train_127 : decode cX4_train 127 = .ok (.invokevirtual 197, 3) := by decide +kernel
theorem dX4_train_130 : decode cX4_train 130 = .ok (.ireturn, 1) := by decide +kernel
theorem dX4_train_131 : decode cX4_train 131 = .ok (.aload_n 0, 1) := by decide +kernel
theorem dX4_train_132 : decode cX4_train 132 = .ok (.getfield 53, 3) := by decide +kernel
theorem dX4_train_135 : decode cX4_train 135 = .ok (.iload_n 1, 1) := by decide +kernel
theorem dX4_train_136 : decode cX4_train 136 = .ok (.iaload, 1) := by decide +kernel
theorem dX4_train_137 : decode cX4_train 137 = .ok (.ireturn, 1) := by decide +kernel
theorem dX4_train_138 : decode cX4_train 138 = .ok (.aload_n 0, 1) := by decide +kernel
theorem dX4_train_139 : decode cX4_train 139 = .ok (.iload_n 1, 1) := by decide +kernel
theorem dX4_train_140 : decode cX4_train 140 = .ok (.invokevirtual 230, 3) := by decide +kernel
theorem dX4_train_143 : decode cX4_train 143 = .ok (.ireturn, 1) := by decide +kernel
theorem dX4_train_144 : decode cX4_train 144 = .ok (.aload_n 0, 1) := by decide +kernel
theorem dX4_train_145 : decode cX4_train 145 = .ok (.iload_n 1, 1) := by decide +kernel
theorem dX4_train_146 : decode cX4_train 146 = .ok (.invokevirtual 233, 3) := by decide +kernel
theorem dX4_train_149 : decode cX4_train 149 = .ok (.ireturn, 1) := by decide +kernel
theorem dX4_train_150 : decode cX4_train 150 = .ok (.aload_n 0, 1) := by decide +kernel
theorem dX4_train_151 : decode cX4_train 151 = .ok (.getfield 28, 3) := by decide +kernel
theorem dX4_train_154 : decode cX4_train 154 = .ok (.iconst 5, 1) := by decide +kernel
theorem dX4_train_155 : decode cX4_train 155 = .ok (.iload_n 1, 1) := by decide +kernel
theorem dX4_train_156 : decode cX4_train 156 = .ok (.iadd, 1) := by decide +kernel
theorem dX4_train_157 : decode cX4_train 157 = .ok (.iaload, 1) := by decide +kernel
theorem dX4_train_158 : decode cX4_train 158 = .ok (.ifCond .le 14, 3) := by decide +kernel
theorem dX4_train_161 : decode cX4_train 161 = .ok (.aload_n 0, 1) := by decide +kernel
theorem dX4_train_162 : decode cX4_train 162 = .ok (.getfield 28, 3) := by decide +kernel
theorem dX4_train_165 : decode cX4_train 165 = .ok (.iconst 5, 1) := by decide +kernel
theorem dX4_train_166 : decode cX4_train 166 = .ok (.iload_n 1, 1) := by decide +kernel
theorem dX4_train_167 : decode cX4_train 167 = .ok (.iadd, 1) := by decide +kernel
theorem dX4_train_168 : decode cX4_train 168 = .ok (.iaload, 1) := by decide +kernel
theorem dX4_train_169 : decode cX4_train 169 = .ok (.goto 4, 3) := by decide +kernel
theorem dX4_train_172 : decode cX4_train 172 = .ok (.iconst (-1), 1) := by decide +kernel
theorem dX4_train_173 : decode cX4_train 173 = .ok (.ireturn, 1) := by decide +kernel
theorem dX4_setting_0 : decode cX4_setting 0 = .ok (.aload_n 0, 1) := by decide +kernel
theorem dX4_setting_1 : decode cX4_setting 1 = .ok (.iload_n 1, 1) := by decide +kernel
theorem dX4_setting_2 : decode cX4_setting 2 = .ok (.i2l, 1) := by decide +kernel
theorem dX4_setting_3 : decode cX4_setting 3 = .ok (.lconst 0, 1) := by decide +kernel
theorem dX4_setting_4 : decode cX4_setting 4 = .ok (.ldc2_w 214, 3) := by decide +kernel
theorem dX4_setting_7 : decode cX4_setting 7 = .ok (.invokestatic 118, 3) := by decide +kernel
theorem dX4_setting_10 : decode cX4_setting 10 = .ok (.ifCond .eq 7, 3) := by decide +kernel
theorem dX4_setting_13 : decode cX4_setting 13 = .ok (.iconst 0, 1) := by decide +kernel
theorem dX4_setting_14 : decode cX4_setting 14 = .ok (.goto 4, 3) := by decide +kernel
theorem dX4_setting_17 : decode cX4_setting 17 = .ok (.iconst 1, 1) := by decide +kernel
theorem dX4_setting_18 : decode cX4_setting 18 = .ok (.invokevirtual 134, 3) := by decide +kernel
theorem dX4_setting_21 : decode cX4_setting 21 = .ok (.ifCond .eq 7, 3) := by decide +kernel
theorem dX4_setting_24 : decode cX4_setting 24 = .ok (.iconst 0, 1) := by decide +kernel
theorem dX4_setting_25 : decode cX4_setting 25 = .ok (.goto 11, 3) := by decide +kernel
theorem dX4_setting_28 : decode cX4_setting 28 = .ok (.aload_n 0, 1) := by decide +kernel
theorem dX4_setting_29 : decode cX4_setting 29 = .ok (.getfield 28, 3) := by decide +kernel
theorem dX4_setting_32 : decode cX4_setting 32 = .ok (.iconst 1, 1) := by decide +kernel
theorem dX4_setting_33 : decode cX4_setting 33 = .ok (.iload_n 1, 1) := by decide +kernel
theorem dX4_setting_34 : decode cX4_setting 34 = .ok (.iadd, 1) := by decide +kernel
theorem dX4_setting_35 : decode cX4_setting 35 = .ok (.iaload, 1) := by decide +kernel
theorem dX4_setting_36 : decode cX4_setting 36 = .ok (.ireturn, 1) := by decide +kernel
theorem dX4_isPause_0 : decode cX4_isPause 0 = .ok (.iload_n 0, 1) := by decide +kernel
theorem dX4_isPause_1 : decode cX4_isPause 1 = .ok (.i2l, 1) := by decide +kernel
theorem dX4_isPause_2 : decode cX4_isPause 2 = .ok (.lconst 1, 1) := by decide +kernel
theorem dX4_isPause_3 : decode cX4_isPause 3 = .ok (.ldc2_w 236, 3) := by decide +kernel
theorem dX4_isPause_6 : decode cX4_isPause 6 = .ok (.invokestatic 118, 3) := by decide +kernel
theorem dX4_isPause_9 : decode cX4_isPause 9 = .ok (.ireturn, 1) := by decide +kernel
theorem dX4_isWeight_0 : decode cX4_isWeight 0 = .ok (.iload_n 0, 1) := by decide +kernel
theorem dX4_isWeight_1 : decode cX4_isWeight 1 = .ok (.i2l, 1) := by decide +kernel
theorem dX4_isWeight_2 : decode cX4_isWeight 2 = .ok (.lconst 1, 1) := by decide +kernel
theorem dX4_isWeight_3 : decode cX4_isWeight 3 = .ok (.ldc2_w 238, 3) := by decide +kernel
theorem dX4_isWeight_6 : decode cX4_isWeight 6 = .ok (.invokestatic 118, 3) := by decide +kernel
theorem dX4_isWeight_9 : decode cX4_isWeight 9 = .ok (.ireturn, 1) := by decide +kernel
theorem dX4_roll_0 : decode cX4_roll 0 = .ok (.iload_n 1, 1) := by decide +kernel
theorem dX4_roll_1 : decode cX4_roll 1 = .ok (.invokestatic 240, 3) := by decide +kernel
theorem dX4_roll_4 : decode cX4_roll 4 = .ok (.ifCond .eq 14, 3) := by decide +kernel
theorem dX4_roll_7 : decode cX4_roll 7 = .ok (.iload_n 2, 1) := by decide +kernel
theorem dX4_roll_8 : decode cX4_roll 8 = .ok (.invokestatic 243, 3) := by decide +kernel
theorem dX4_roll_11 : decode cX4_roll 11 = .ok (.ifCond .eq 7, 3) := by decide +kernel
theorem dX4_roll_14 : decode cX4_roll 14 = .ok (.iconst 1, 1) := by decide +kernel
theorem dX4_roll_15 : decode cX4_roll 15 = .ok (.goto 4, 3) := by decide +kernel
theorem dX4_roll_18 : decode cX4_roll 18 = .ok (.iconst 0, 1) := by decide +kernel
theorem dX4_roll_19 : decode cX4_roll 19 = .ok (.istore_n 3, 1) := by decide +kernel
theorem dX4_roll_20 : decode cX4_roll 20 = .ok (.aload_n 0, 1) := by decide +kernel
theorem dX4_roll_21 : decode cX4_roll 21 = .ok (.iload_n 3, 1) := by decide +kernel
theorem dX4_roll_22 : decode cX4_roll 22 = .ok (.ifCond .ne 7, 3) := by decide +kernel
theorem dX4_roll_25 : decode cX4_roll 25 = .ok (.iconst 1, 1) := by decide +kernel
theorem dX4_roll_26 : decode cX4_roll 26 = .ok (.goto 19, 3) := by decide +kernel
theorem dX4_roll_29 : decode cX4_roll 29 = .ok (.aload_n 0, 1) := by decide +kernel
theorem dX4_roll_30 : decode cX4_roll 30 = .ok (.getfield 28, 3) := by decide +kernel
theorem dX4_roll_33 : decode cX4_roll 33 = .ok (.iconst 0, 1) := by decide +kernel
theorem dX4_roll_34 : decode cX4_roll 34 = .ok (.iaload, 1) := by decide +kernel
theorem dX4_roll_35 : decode cX4_roll 35 = .ok (.bipush 30, 2) := by decide +kernel
theorem dX4_roll_37 : decode cX4_roll 37 = .ok (.if_icmp .ne 7, 3) := by decide +kernel
theorem dX4_roll_40 : decode cX4_roll 40 = .ok (.iconst 2, 1) := by decide +kernel
theorem dX4_roll_41 : decode cX4_roll 41 = .ok (.goto 4, 3) := by decide +kernel
theorem dX4_roll_44 : decode cX4_roll 44 = .ok (.iconst 0, 1) := by decide +kernel
theorem dX4_roll_45 : decode cX4_roll 45 = .ok (.invokevirtual 134, 3) := by decide +kernel
theorem dX4_roll_48 : decode cX4_roll 48 = .ok (.ifCond .eq 5, 3) := by decide +kernel
theorem dX4_roll_51 : decode cX4_roll 51 = .ok (.iconst 0, 1) := by decide +kernel
theorem dX4_roll_52 : decode cX4_roll 52 = .ok (.ireturn, 1) := by decide +kernel
theorem dX4_roll_53 : decode cX4_roll 53 = .ok (.aload_n 0, 1) := by decide +kernel
theorem dX4_roll_54 : decode cX4_roll 54 = .ok (.invokevirtual 246, 3) := by decide +kernel
theorem dX4_roll_57 : decode cX4_roll 57 = .ok (.aload_n 0, 1) := by decide +kernel
theorem dX4_roll_58 : decode cX4_roll 58 = .ok (.getfield 28, 3) := by decide +kernel
theorem dX4_roll_61 : decode cX4_roll 61 = .ok (.iload_n 1, 1) := by decide +kernel
theorem dX4_roll_62 : decode cX4_roll 62 = .ok (.iload_n 2, 1) := by decide +kernel
theorem dX4_roll_63 : decode cX4_roll 63 = .ok (.invokestatic 249, 3) := by decide +kernel
theorem dX4_roll_66 : decode cX4_roll 66 = .ok (.ireturn, 1) := by decide +kernel
theorem dX4_record_0 : decode cX4_record 0 = .ok (.aload_n 0, 1) := by decide +kernel
theorem dX4_record_1 : decode cX4_record 1 = .ok (.invokevirtual 193, 3) := by decide +kernel
theorem dX4_record_4 : decode cX4_record 4 = .ok (.iconst (-1), 1) := by decide +kernel
theorem dX4_record_5 : decode cX4_record 5 = .ok (.if_icmp .ne 23, 3) := by decide +kernel
theorem dX4_record_8 : decode cX4_record 8 = .ok (.aload_n 0, 1) := by decide +kernel
theorem dX4_record_9 : decode cX4_record 9 = .ok (.getfield 28, 3) := by decide +kernel
theorem dX4_record_12 : decode cX4_record 12 = .ok (.iconst 0, 1) := by decide +kernel
theorem dX4_record_13 : decode cX4_record 13 = .ok (.iaload, 1) := by decide +kernel
theorem dX4_record_14 : decode cX4_record 14 = .ok (.aload_n 0, 1) := by decide +kernel
theorem dX4_record_15 : decode cX4_record 15 = .ok (.getfield 156, 3) := by decide +kernel
theorem dX4_record_18 : decode cX4_record 18 = .ok (.iadd, 1) := by decide +kernel
theorem dX4_record_19 : decode cX4_record 19 = .ok (.bipush 30, 2) := by decide +kernel
theorem dX4_record_21 : decode cX4_record 21 = .ok (.if_icmp .gt 7, 3) := by decide +kernel
theorem dX4_record_24 : decode cX4_record 24 = .ok (.iconst 1, 1) := by decide +kernel
theorem dX4_record_25 : decode cX4_record 25 = .ok (.goto 4, 3) := by decide +kernel
theorem dX4_record_28 : decode cX4_record 28 = .ok (.iconst 0, 1) := by decide +kernel
theorem dX4_record_29 : decode cX4_record 29 = .ok (.istore_n 1, 1) := by decide +kernel
theorem dX4_record_30 : decode cX4_record 30 = .ok (.aload_n 0, 1) := by decide +kernel
theorem dX4_record_31 : decode cX4_record 31 = .ok (.iload_n 1, 1) := by decide +kernel
theorem dX4_record_32 : decode cX4_record 32 = .ok (.ifCond .eq 7, 3) := by decide +kernel
theorem dX4_record_35 : decode cX4_record 35 = .ok (.iconst 0, 1) := by decide +kernel
theorem dX4_record_36 : decode cX4_record 36 = .ok (.goto 4, 3) := by decide +kernel
theorem dX4_record_39 : decode cX4_record 39 = .ok (.iconst 1, 1) := by decide +kernel
theorem dX4_record_40 : decode cX4_record 40 = .ok (.invokevirtual 134, 3) := by decide +kernel
theorem dX4_record_43 : decode cX4_record 43 = .ok (.ifCond .eq 5, 3) := by decide +kernel
theorem dX4_record_46 : decode cX4_record 46 = .ok (.iconst 0, 1) := by decide +kernel
theorem dX4_record_47 : decode cX4_record 47 = .ok (.ireturn, 1) := by decide +kernel
theorem dX4_record_48 : decode cX4_record 48 = .ok (.aload_n 0, 1) := by decide +kernel
theorem dX4_record_49 : decode cX4_record 49 = .ok (.invokevirtual 246, 3) := by decide +kernel
theorem dX4_record_52 : decode cX4_record 52 = .ok (.iconst 0, 1) := by decide +kernel
theorem dX4_record_53 : decode cX4_record 53 = .ok (.istore_n 2, 1) := by decide +kernel
theorem dX4_record_54 : decode cX4_record 54 = .ok (.iload_n 2, 1) := by decide +kernel
theorem dX4_record_55 : decode cX4_record 55 = .ok (.aload_n 0, 1) := by decide +kernel
theorem dX4_record_56 : decode cX4_record 56 = .ok (.getfield 156, 3) := by decide +kernel
theorem dX4_record_59 : decode cX4_record 59 = .ok (.if_icmp .ge 29, 3) := by decide +kernel
theorem dX4_record_62 : decode cX4_record 62 = .ok (.aload_n 0, 1) := by decide +kernel
theorem dX4_record_63 : decode cX4_record 63 = .ok (.getfield 28, 3) := by decide +kernel
theorem dX4_record_66 : decode cX4_record 66 = .ok (.aload_n 0, 1) := by decide +kernel
theorem dX4_record_67 : decode cX4_record 67 = .ok (.getfield 13, 3) := by decide +kernel
theorem dX4_record_70 : decode cX4_record 70 = .ok (.iload_n 2, 1) := by decide +kernel
theorem dX4_record_71 : decode cX4_record 71 = .ok (.iaload, 1) := by decide +kernel
theorem dX4_record_72 : decode cX4_record 72 = .ok (.aload_n 0, 1) := by decide +kernel
theorem dX4_record_73 : decode cX4_record 73 = .ok (.getfield 16, 3) := by decide +kernel
theorem dX4_record_76 : decode cX4_record 76 = .ok (.iload_n 2, 1) := by decide +kernel
theorem dX4_record_77 : decode cX4_record 77 = .ok (.iaload, 1) := by decide +kernel
theorem dX4_record_78 : decode cX4_record 78 = .ok (.invokestatic 249, 3) := by decide +kernel
theorem dX4_record_81 : decode cX4_record 81 = .ok (.pop, 1) := by decide +kernel
theorem dX4_record_82 : decode cX4_record 82 = .ok (.iinc 2 1, 3) := by decide +kernel
theorem dX4_record_85 : decode cX4_record 85 = .ok (.goto (-31), 3) := by decide +kernel
theorem dX4_record_88 : decode cX4_record 88 = .ok (.aload_n 0, 1) := by decide +kernel
theorem dX4_record_89 : decode cX4_record 89 = .ok (.getfield 28, 3) := by decide +kernel
theorem dX4_record_92 : decode cX4_record 92 = .ok (.iconst 0, 1) := by decide +kernel
theorem dX4_record_93 : decode cX4_record 93 = .ok (.iaload, 1) := by decide +kernel
theorem dX4_record_94 : decode cX4_record 94 = .ok (.ireturn, 1) := by decide +kernel
theorem dX4_strike_0 : decode cX4_strike 0 = .ok (.aload_n 0, 1) := by decide +kernel
theorem dX4_strike_1 : decode cX4_strike 1 = .ok (.aload_n 0, 1) := by decide +kernel
theorem dX4_strike_2 : decode cX4_strike 2 = .ok (.iload_n 1, 1) := by decide +kernel
theorem dX4_strike_3 : decode cX4_strike 3 = .ok (.invokevirtual 211, 3) := by decide +kernel
theorem dX4_strike_6 : decode cX4_strike 6 = .ok (.ifCond .eq 7, 3) := by decide +kernel
theorem dX4_strike_9 : decode cX4_strike 9 = .ok (.iconst 0, 1) := by decide +kernel
theorem dX4_strike_10 : decode cX4_strike 10 = .ok (.goto 4, 3) := by decide +kernel
theorem dX4_strike_13 : decode cX4_strike 13 = .ok (.iconst 1, 1) := by decide +kernel
theorem dX4_strike_14 : decode cX4_strike 14 = .ok (.invokevirtual 134, 3) := by decide +kernel
theorem dX4_strike_17 : decode cX4_strike 17 = .ok (.ifCond .eq 5, 3) := by decide +kernel
theorem dX4_strike_20 : decode cX4_strike 20 = .ok (.iconst 0, 1) := by decide +kernel
theorem dX4_strike_21 : decode cX4_strike 21 = .ok (.ireturn, 1) := by decide +kernel
theorem dX4_strike_22 : decode cX4_strike 22 = .ok (.aload_n 0, 1) := by decide +kernel
theorem dX4_strike_23 : decode cX4_strike 23 = .ok (.invokevirtual 246, 3) := by decide +kernel
theorem dX4_strike_26 : decode cX4_strike 26 = .ok (.aload_n 0, 1) := by decide +kernel
theorem dX4_strike_27 : decode cX4_strike 27 = .ok (.getfield 28, 3) := by decide +kernel
theorem dX4_strike_30 : decode cX4_strike 30 = .ok (.iload_n 1, 1) := by decide +kernel
theorem dX4_strike_31 : decode cX4_strike 31 = .ok (.invokestatic 252, 3) := by decide +kernel
theorem dX4_strike_34 : decode cX4_strike 34 = .ok (.ireturn, 1) := by decide +kernel
theorem dX4_weigh_0 : decode cX4_weigh 0 = .ok (.aload_n 0, 1) := by decide +kernel
theorem dX4_weigh_1 : decode cX4_weigh 1 = .ok (.aload_n 0, 1) := by decide +kernel
theorem dX4_weigh_2 : decode cX4_weigh 2 = .ok (.iload_n 1, 1) := by decide +kernel
theorem dX4_weigh_3 : decode cX4_weigh 3 = .ok (.invokevirtual 211, 3) := by decide +kernel
theorem dX4_weigh_6 : decode cX4_weigh 6 = .ok (.ifCond .ne 7, 3) := by decide +kernel
theorem dX4_weigh_9 : decode cX4_weigh 9 = .ok (.iconst 1, 1) := by decide +kernel
theorem dX4_weigh_10 : decode cX4_weigh 10 = .ok (.goto 15, 3) := by decide +kernel
theorem dX4_weigh_13 : decode cX4_weigh 13 = .ok (.iload_n 2, 1) := by decide +kernel
theorem dX4_weigh_14 : decode cX4_weigh 14 = .ok (.invokestatic 243, 3) := by decide +kernel
theorem dX4_weigh_17 : decode cX4_weigh 17 = .ok (.ifCond .eq 7, 3) := by decide +kernel
theorem dX4_weigh_20 : decode cX4_weigh 20 = .ok (.iconst 0, 1) := by decide +kernel
theorem dX4_weigh_21 : decode cX4_weigh 21 = .ok (.goto 4, 3) := by decide +kernel
theorem dX4_weigh_24 : decode cX4_weigh 24 = .ok (.iconst 2, 1) := by decide +kernel
theorem dX4_weigh_25 : decode cX4_weigh 25 = .ok (.invokevirtual 134, 3) := by decide +kernel
theorem dX4_weigh_28 : decode cX4_weigh 28 = .ok (.ifCond .eq 5, 3) := by decide +kernel
theorem dX4_weigh_31 : decode cX4_weigh 31 = .ok (.iconst 0, 1) := by decide +kernel
theorem dX4_weigh_32 : decode cX4_weigh 32 = .ok (.ireturn, 1) := by decide +kernel
theorem dX4_weigh_33 : decode cX4_weigh 33 = .ok (.aload_n 0, 1) := by decide +kernel
theorem dX4_weigh_34 : decode cX4_weigh 34 = .ok (.invokevirtual 246, 3) := by decide +kernel
theorem dX4_weigh_37 : decode cX4_weigh 37 = .ok (.aload_n 0, 1) := by decide +kernel
theorem dX4_weigh_38 : decode cX4_weigh 38 = .ok (.getfield 28, 3) := by decide +kernel
theorem dX4_weigh_41 : decode cX4_weigh 41 = .ok (.bipush 65, 2) := by decide +kernel
theorem dX4_weigh_43 : decode cX4_weigh 43 = .ok (.iload_n 1, 1) := by decide +kernel
theorem dX4_weigh_44 : decode cX4_weigh 44 = .ok (.iadd, 1) := by decide +kernel
theorem dX4_weigh_45 : decode cX4_weigh 45 = .ok (.iaload, 1) := by decide +kernel
theorem dX4_weigh_46 : decode cX4_weigh 46 = .ok (.istore_n 3, 1) := by decide +kernel
theorem dX4_weigh_47 : decode cX4_weigh 47 = .ok (.aload_n 0, 1) := by decide +kernel
theorem dX4_weigh_48 : decode cX4_weigh 48 = .ok (.getfield 28, 3) := by decide +kernel
theorem dX4_weigh_51 : decode cX4_weigh 51 = .ok (.bipush 65, 2) := by decide +kernel
theorem dX4_weigh_53 : decode cX4_weigh 53 = .ok (.iload_n 1, 1) := by decide +kernel
theorem dX4_weigh_54 : decode cX4_weigh 54 = .ok (.iadd, 1) := by decide +kernel
theorem dX4_weigh_55 : decode cX4_weigh 55 = .ok (.iload_n 2, 1) := by decide +kernel
theorem dX4_weigh_56 : decode cX4_weigh 56 = .ok (.iastore, 1) := by decide +kernel
theorem dX4_weigh_57 : decode cX4_weigh 57 = .ok (.iload_n 3, 1) := by decide +kernel
theorem dX4_weigh_58 : decode cX4_weigh 58 = .ok (.ireturn, 1) := by decide +kernel
theorem dX4_bill_0 : decode cX4_bill 0 = .ok (.aload_n 0, 1) := by decide +kernel
theorem dX4_bill_1 : decode cX4_bill 1 = .ok (.iload_n 1, 1) := by decide +kernel
theorem dX4_bill_2 : decode cX4_bill 2 = .ok (.i2l, 1) := by decide +kernel
theorem dX4_bill_3 : decode cX4_bill 3 = .ok (.lconst 0, 1) := by decide +kernel
theorem dX4_bill_4 : decode cX4_bill 4 = .ok (.ldc2_w 255, 3) := by decide +kernel
theorem dX4_bill_7 : decode cX4_bill 7 = .ok (.invokestatic 118, 3) := by decide +kernel
theorem dX4_bill_10 : decode cX4_bill 10 = .ok (.ifCond .eq 19, 3) := by decide +kernel
theorem dX4_bill_13 : decode cX4_bill 13 = .ok (.iload_n 2, 1) := by decide +kernel
theorem dX4_bill_14 : decode cX4_bill 14 = .ok (.i2l, 1) := by decide +kernel
theorem dX4_bill_15 : decode cX4_bill 15 = .ok (.lconst 0, 1) := by decide +kernel
theorem dX4_bill_16 : decode cX4_bill 16 = .ok (.ldc2_w 257, 3) := by decide +kernel
theorem dX4_bill_19 : decode cX4_bill 19 = .ok (.invokestatic 118, 3) := by decide +kernel
theorem dX4_bill_22 : decode cX4_bill 22 = .ok (.ifCond .eq 7, 3) := by decide +kernel
theorem dX4_bill_25 : decode cX4_bill 25 = .ok (.iconst 0, 1) := by decide +kernel
theorem dX4_bill_26 : decode cX4_bill 26 = .ok (.goto 4, 3) := by decide +kernel
theorem dX4_bill_29 : decode cX4_bill 29 = .ok (.iconst 1, 1) := by decide +kernel
theorem dX4_bill_30 : decode cX4_bill 30 = .ok (.invokevirtual 134, 3) := by decide +kernel
theorem dX4_bill_33 : decode cX4_bill 33 = .ok (.ifCond .eq 5, 3) := by decide +kernel
theorem dX4_bill_36 : decode cX4_bill 36 = .ok (.iconst 0, 1) := by decide +kernel
theorem dX4_bill_37 : decode cX4_bill 37 = .ok (.ireturn, 1) := by decide +kernel
theorem dX4_bill_38 : decode cX4_bill 38 = .ok (.aload_n 0, 1) := by decide +kernel
theorem dX4_bill_39 : decode cX4_bill 39 = .ok (.invokevirtual 246, 3) := by decide +kernel
theorem dX4_bill_42 : decode cX4_bill 42 = .ok (.aload_n 0, 1) := by decide +kernel
theorem dX4_bill_43 : decode cX4_bill 43 = .ok (.getfield 28, 3) := by decide +kernel
theorem dX4_bill_46 : decode cX4_bill 46 = .ok (.iconst 5, 1) := by decide +kernel
theorem dX4_bill_47 : decode cX4_bill 47 = .ok (.iload_n 1, 1) := by decide +kernel
theorem dX4_bill_48 : decode cX4_bill 48 = .ok (.iadd, 1) := by decide +kernel
theorem dX4_bill_49 : decode cX4_bill 49 = .ok (.iaload, 1) := by decide +kernel
theorem dX4_bill_50 : decode cX4_bill 50 = .ok (.istore_n 3, 1) := by decide +kernel
theorem dX4_bill_51 : decode cX4_bill 51 = .ok (.aload_n 0, 1) := by decide +kernel
theorem dX4_bill_52 : decode cX4_bill 52 = .ok (.getfield 28, 3) := by decide +kernel
theorem dX4_bill_55 : decode cX4_bill 55 = .ok (.iconst 5, 1) := by decide +kernel
theorem dX4_bill_56 : decode cX4_bill 56 = .ok (.iload_n 1, 1) := by decide +kernel
theorem dX4_bill_57 : decode cX4_bill 57 = .ok (.iadd, 1) := by decide +kernel
theorem dX4_bill_58 : decode cX4_bill 58 = .ok (.iload_n 2, 1) := by decide +kernel
theorem dX4_bill_59 : decode cX4_bill 59 = .ok (.iastore, 1) := by decide +kernel
theorem dX4_bill_60 : decode cX4_bill 60 = .ok (.iload_n 3, 1) := by decide +kernel
theorem dX4_bill_61 : decode cX4_bill 61 = .ok (.ifCond .le 7, 3) := by decide +kernel
theorem dX4_bill_64 : decode cX4_bill 64 = .ok (.iload_n 3, 1) := by decide +kernel
theorem dX4_bill_65 : decode cX4_bill 65 = .ok (.goto 4, 3) := by decide +kernel
theorem dX4_bill_68 : decode cX4_bill 68 = .ok (.iconst (-1), 1) := by decide +kernel
theorem dX4_bill_69 : decode cX4_bill 69 = .ok (.ireturn, 1) := by decide +kernel
theorem dX4_isSetting_0 : decode cX4_isSetting 0 = .ok (.iload_n 0, 1) := by decide +kernel
theorem dX4_isSetting_1 : decode cX4_isSetting 1 = .ok (.ifCond .ne 15, 3) := by decide +kernel
theorem dX4_isSetting_4 : decode cX4_isSetting 4 = .ok (.iload_n 1, 1) := by decide +kernel
theorem dX4_isSetting_5 : decode cX4_isSetting 5 = .ok (.i2l, 1) := by decide +kernel
theorem dX4_isSetting_6 : decode cX4_isSetting 6 = .ok (.lconst 1, 1) := by decide +kernel
theorem dX4_isSetting_7 : decode cX4_isSetting 7 = .ok (.ldc2_w 259, 3) := by decide +kernel
theorem dX4_isSetting_10 : decode cX4_isSetting 10 = .ok (.invokestatic 118, 3) := by decide +kernel
theorem dX4_isSetting_13 : decode cX4_isSetting 13 = .ok (.ifCond .ne 56, 3) := by decide +kernel
theorem dX4_isSetting_16 : decode cX4_isSetting 16 = .ok (.iload_n 0, 1) := by decide +kernel
theorem dX4_isSetting_17 : decode cX4_isSetting 17 = .ok (.iconst 1, 1) := by decide +kernel
theorem dX4_isSetting_18 : decode cX4_isSetting 18 = .ok (.if_icmp .ne 15, 3) := by decide +kernel
theorem dX4_isSetting_21 : decode cX4_isSetting 21 = .ok (.iload_n 1, 1) := by decide +kernel
theorem dX4_isSetting_22 : decode cX4_isSetting 22 = .ok (.i2l, 1) := by decide +kernel
theorem dX4_isSetting_23 : decode cX4_isSetting 23 = .ok (.lconst 1, 1) := by decide +kernel
theorem dX4_isSetting_24 : decode cX4_isSetting 24 = .ok (.ldc2_w 261, 3) := by decide +kernel
theorem dX4_isSetting_27 : decode cX4_isSetting 27 = .ok (.invokestatic 118, 3) := by decide +kernel
theorem dX4_isSetting_30 : decode cX4_isSetting 30 = .ok (.ifCond .ne 39, 3) := by decide +kernel
theorem dX4_isSetting_33 : decode cX4_isSetting 33 = .ok (.iload_n 0, 1) := by decide +kernel
theorem dX4_isSetting_34 : decode cX4_isSetting 34 = .ok (.iconst 2, 1) := by decide +kernel
theorem dX4_isSetting_35 : decode cX4_isSetting 35 = .ok (.if_icmp .ne 15, 3) := by decide +kernel
theorem dX4_isSetting_38 : decode cX4_isSetting 38 = .ok (.iload_n 1, 1) := by decide +kernel
theorem dX4_isSetting_39 : decode cX4_isSetting 39 = .ok (.i2l, 1) := by decide +kernel
theorem dX4_isSetting_40 : decode cX4_isSetting 40 = .ok (.lconst 0, 1) := by decide +kernel
theorem dX4_isSetting_41 : decode cX4_isSetting 41 = .ok (.ldc2_w 236, 3) := by decide +kernel
theorem dX4_isSetting_44 : decode cX4_isSetting 44 = .ok (.invokestatic 118, 3) := by decide +kernel
theorem dX4_isSetting_47 : decode cX4_isSetting 47 = .ok (.ifCond .ne 22, 3) := by decide +kernel
theorem dX4_isSetting_50 : decode cX4_isSetting 50 = .ok (.iload_n 0, 1) := by decide +kernel
theorem dX4_isSetting_51 : decode cX4_isSetting 51 = .ok (.iconst 3, 1) := by decide +kernel
theorem dX4_isSetting_52 : decode cX4_isSetting 52 = .ok (.if_icmp .ne 21, 3) := by decide +kernel
theorem dX4_isSetting_55 : decode cX4_isSetting 55 = .ok (.iload_n 1, 1) := by decide +kernel
theorem dX4_isSetting_56 : decode cX4_isSetting 56 = .ok (.i2l, 1) := by decide +kernel
theorem dX4_isSetting_57 : decode cX4_isSetting 57 = .ok (.ldc2_w 177, 3) := by decide +kernel
theorem dX4_isSetting_60 : decode cX4_isSetting 60 = .ok (.ldc2_w 236, 3) := by decide +kernel
theorem dX4_isSetting_63 : decode cX4_isSetting 63 = .ok (.invokestatic 118, 3) := by decide +kernel
theorem dX4_isSetting_66 : decode cX4_isSetting 66 = .ok (.ifCond .eq 7, 3) := by decide +kernel
theorem dX4_isSetting_69 : decode cX4_isSetting 69 = .ok (.iconst 1, 1) := by decide +kernel
theorem dX4_isSetting_70 : decode cX4_isSetting 70 = .ok (.goto 4, 3) := by decide +kernel
theorem dX4_isSetting_73 : decode cX4_isSetting 73 = .ok (.iconst 0, 1) := by decide +kernel
theorem dX4_isSetting_74 : decode cX4_isSetting 74 = .ok (.ireturn, 1) := by decide +kernel
theorem dX4_set_0 : decode cX4_set 0 = .ok (.aload_n 0, 1) := by decide +kernel
theorem dX4_set_1 : decode cX4_set 1 = .ok (.iload_n 1, 1) := by decide +kernel
theorem dX4_set_2 : decode cX4_set 2 = .ok (.iload_n 2, 1) := by decide +kernel
theorem dX4_set_3 : decode cX4_set 3 = .ok (.invokestatic 263, 3) := by decide +kernel
theorem dX4_set_6 : decode cX4_set 6 = .ok (.ifCond .eq 7, 3) := by decide +kernel
theorem dX4_set_9 : decode cX4_set 9 = .ok (.iconst 0, 1) := by decide +kernel
theorem dX4_set_10 : decode cX4_set 10 = .ok (.goto 4, 3) := by decide +kernel
theorem dX4_set_13 : decode cX4_set 13 = .ok (.iconst 1, 1) := by decide +kernel
theorem dX4_set_14 : decode cX4_set 14 = .ok (.invokevirtual 134, 3) := by decide +kernel
theorem dX4_set_17 : decode cX4_set 17 = .ok (.ifCond .eq 5, 3) := by decide +kernel
theorem dX4_set_20 : decode cX4_set 20 = .ok (.iconst 0, 1) := by decide +kernel
theorem dX4_set_21 : decode cX4_set 21 = .ok (.ireturn, 1) := by decide +kernel
theorem dX4_set_22 : decode cX4_set 22 = .ok (.aload_n 0, 1) := by decide +kernel
theorem dX4_set_23 : decode cX4_set 23 = .ok (.invokevirtual 246, 3) := by decide +kernel
theorem dX4_set_26 : decode cX4_set 26 = .ok (.aload_n 0, 1) := by decide +kernel
theorem dX4_set_27 : decode cX4_set 27 = .ok (.getfield 28, 3) := by decide +kernel
theorem dX4_set_30 : decode cX4_set 30 = .ok (.iconst 1, 1) := by decide +kernel
theorem dX4_set_31 : decode cX4_set 31 = .ok (.iload_n 1, 1) := by decide +kernel
theorem dX4_set_32 : decode cX4_set 32 = .ok (.iadd, 1) := by decide +kernel
theorem dX4_set_33 : decode cX4_set 33 = .ok (.iaload, 1) := by decide +kernel
theorem dX4_set_34 : decode cX4_set 34 = .ok (.istore_n 3, 1) := by decide +kernel
theorem dX4_set_35 : decode cX4_set 35 = .ok (.aload_n 0, 1) := by decide +kernel
theorem dX4_set_36 : decode cX4_set 36 = .ok (.getfield 28, 3) := by decide +kernel
theorem dX4_set_39 : decode cX4_set 39 = .ok (.iconst 1, 1) := by decide +kernel
theorem dX4_set_40 : decode cX4_set 40 = .ok (.iload_n 1, 1) := by decide +kernel
theorem dX4_set_41 : decode cX4_set 41 = .ok (.iadd, 1) := by decide +kernel
theorem dX4_set_42 : decode cX4_set 42 = .ok (.iload_n 2, 1) := by decide +kernel
theorem dX4_set_43 : decode cX4_set 43 = .ok (.iastore, 1) := by decide +kernel
theorem dX4_set_44 : decode cX4_set 44 = .ok (.iload_n 3, 1) := by decide +kernel
theorem dX4_set_45 : decode cX4_set 45 = .ok (.ireturn, 1) := by decide +kernel
theorem dX4_leave_0 : decode cX4_leave 0 = .ok (.aload_n 0, 1) := by decide +kernel
theorem dX4_leave_1 : decode cX4_leave 1 = .ok (.aload_n 0, 1) := by decide +kernel
theorem dX4_leave_2 : decode cX4_leave 2 = .ok (.getfield 28, 3) := by decide +kernel
theorem dX4_leave_5 : decode cX4_leave 5 = .ok (.iconst 0, 1) := by decide +kernel
theorem dX4_leave_6 : decode cX4_leave 6 = .ok (.iaload, 1) := by decide +kernel
theorem dX4_leave_7 : decode cX4_leave 7 = .ok (.ifCond .ne 7, 3) := by decide +kernel
theorem dX4_leave_10 : decode cX4_leave 10 = .ok (.iconst 1, 1) := by decide +kernel
theorem dX4_leave_11 : decode cX4_leave 11 = .ok (.goto 4, 3) := by decide +kernel
theorem dX4_leave_14 : decode cX4_leave 14 = .ok (.iconst 0, 1) := by decide +kernel
theorem dX4_leave_15 : decode cX4_leave 15 = .ok (.invokevirtual 134, 3) := by decide +kernel
theorem dX4_leave_18 : decode cX4_leave 18 = .ok (.ifCond .eq 5, 3) := by decide +kernel
theorem dX4_leave_21 : decode cX4_leave 21 = .ok (.iconst 0, 1) := by decide +kernel
theorem dX4_leave_22 : decode cX4_leave 22 = .ok (.ireturn, 1) := by decide +kernel
theorem dX4_leave_23 : decode cX4_leave 23 = .ok (.aload_n 0, 1) := by decide +kernel
theorem dX4_leave_24 : decode cX4_leave 24 = .ok (.invokevirtual 246, 3) := by decide +kernel
theorem dX4_leave_27 : decode cX4_leave 27 = .ok (.aload_n 0, 1) := by decide +kernel
theorem dX4_leave_28 : decode cX4_leave 28 = .ok (.aload_n 0, 1) := by decide +kernel
theorem dX4_leave_29 : decode cX4_leave 29 = .ok (.getfield 28, 3) := by decide +kernel
theorem dX4_leave_32 : decode cX4_leave 32 = .ok (.invokevirtual 267, 3) := by decide +kernel
theorem dX4_leave_35 : decode cX4_leave 35 = .ok (.ireturn, 1) := by decide +kernel
theorem dX4_undo_0 : decode cX4_undo 0 = .ok (.aload_n 0, 1) := by decide +kernel
theorem dX4_undo_1 : decode cX4_undo 1 = .ok (.aload_n 0, 1) := by decide +kernel
theorem dX4_undo_2 : decode cX4_undo 2 = .ok (.getfield 65, 3) := by decide +kernel
theorem dX4_undo_5 : decode cX4_undo 5 = .ok (.ifCond .ne 7, 3) := by decide +kernel
theorem dX4_undo_8 : decode cX4_undo 8 = .ok (.iconst 1, 1) := by decide +kernel
theorem dX4_undo_9 : decode cX4_undo 9 = .ok (.goto 4, 3) := by decide +kernel
theorem dX4_undo_12 : decode cX4_undo 12 = .ok (.iconst 0, 1) := by decide +kernel
theorem dX4_undo_13 : decode cX4_undo 13 = .ok (.invokevirtual 134, 3) := by decide +kernel
theorem dX4_undo_16 : decode cX4_undo 16 = .ok (.ifCond .eq 5, 3) := by decide +kernel
theorem dX4_undo_19 : decode cX4_undo 19 = .ok (.iconst 0, 1) := by decide +kernel
theorem dX4_undo_20 : decode cX4_undo 20 = .ok (.ireturn, 1) := by decide +kernel
theorem dX4_undo_21 : decode cX4_undo 21 = .ok (.aload_n 0, 1) := by decide +kernel
theorem dX4_undo_22 : decode cX4_undo 22 = .ok (.dup, 1) := by decide +kernel
theorem dX4_undo_23 : decode cX4_undo 23 = .ok (.getfield 65, 3) := by decide +kernel
theorem dX4_undo_26 : decode cX4_undo 26 = .ok (.iconst 1, 1) := by decide +kernel
theorem dX4_undo_27 : decode cX4_undo 27 = .ok (.isub, 1) := by decide +kernel
theorem dX4_undo_28 : decode cX4_undo 28 = .ok (.putfield 65, 3) := by decide +kernel
theorem dX4_undo_31 : decode cX4_undo 31 = .ok (.aload_n 0, 1) := by decide +kernel
theorem dX4_undo_32 : decode cX4_undo 32 = .ok (.getfield 34, 3) := by decide +kernel
theorem dX4_undo_35 : decode cX4_undo 35 = .ok (.bipush 95, 2) := by decide +kernel
theorem dX4_undo_37 : decode cX4_undo 37 = .ok (.aload_n 0, 1) := by decide +kernel
theorem dX4_undo_38 : decode cX4_undo 38 = .ok (.getfield 65, 3) := by decide +kernel
theorem dX4_undo_41 : decode cX4_undo 41 = .ok (.imul, 1) := by decide +kernel
theorem dX4_undo_42 : decode cX4_undo 42 = .ok (.aload_n 0, 1) := by decide +kernel
theorem dX4_undo_43 : decode cX4_undo 43 = .ok (.getfield 28, 3) := by decide +kernel
theorem dX4_undo_46 : decode cX4_undo 46 = .ok (.iconst 0, 1) := by decide +kernel
theorem dX4_undo_47 : decode cX4_undo 47 = .ok (.bipush 95, 2) := by decide +kernel
theorem dX4_undo_49 : decode cX4_undo 49 = .ok (.invokestatic 68, 3) := by decide +kernel
theorem dX4_undo_52 : decode cX4_undo 52 = .ok (.aload_n 0, 1) := by decide +kernel
theorem dX4_undo_53 : decode cX4_undo 53 = .ok (.getfield 65, 3) := by decide +kernel
theorem dX4_undo_56 : decode cX4_undo 56 = .ok (.ireturn, 1) := by decide +kernel
theorem dX4_without_0 : decode cX4_without 0 = .ok (.aload_n 0, 1) := by decide +kernel
theorem dX4_without_1 : decode cX4_without 1 = .ok (.aload_n 0, 1) := by decide +kernel
theorem dX4_without_2 : decode cX4_without 2 = .ok (.iload_n 1, 1) := by decide +kernel
theorem dX4_without_3 : decode cX4_without 3 = .ok (.invokevirtual 211, 3) := by decide +kernel
theorem dX4_without_6 : decode cX4_without 6 = .ok (.ifCond .eq 7, 3) := by decide +kernel
theorem dX4_without_9 : decode cX4_without 9 = .ok (.iconst 0, 1) := by decide +kernel
theorem dX4_without_10 : decode cX4_without 10 = .ok (.goto 4, 3) := by decide +kernel
theorem dX4_without_13 : decode cX4_without 13 = .ok (.iconst 1, 1) := by decide +kernel
theorem dX4_without_14 : decode cX4_without 14 = .ok (.invokevirtual 134, 3) := by decide +kernel
theorem dX4_without_17 : decode cX4_without 17 = .ok (.ifCond .eq 5, 3) := by decide +kernel
theorem dX4_without_20 : decode cX4_without 20 = .ok (.iconst 0, 1) := by decide +kernel
theorem dX4_without_21 : decode cX4_without 21 = .ok (.ireturn, 1) := by decide +kernel
theorem dX4_without_22 : decode cX4_without 22 = .ok (.aload_n 0, 1) := by decide +kernel
theorem dX4_without_23 : decode cX4_without 23 = .ok (.invokevirtual 270, 3) := by decide +kernel
theorem dX4_without_26 : decode cX4_without 26 = .ok (.aload_n 0, 1) := by decide +kernel
theorem dX4_without_27 : decode cX4_without 27 = .ok (.getfield 31, 3) := by decide +kernel
theorem dX4_without_30 : decode cX4_without 30 = .ok (.iload_n 1, 1) := by decide +kernel
theorem dX4_without_31 : decode cX4_without 31 = .ok (.invokestatic 252, 3) := by decide +kernel
theorem dX4_without_34 : decode cX4_without 34 = .ok (.pop, 1) := by decide +kernel
theorem dX4_without_35 : decode cX4_without 35 = .ok (.aload_n 0, 1) := by decide +kernel
theorem dX4_without_36 : decode cX4_without 36 = .ok (.aload_n 0, 1) := by decide +kernel
theorem dX4_without_37 : decode cX4_without 37 = .ok (.getfield 31, 3) := by decide +kernel
theorem dX4_without_40 : decode cX4_without 40 = .ok (.invokevirtual 125, 3) := by decide +kernel
theorem dX4_without_43 : decode cX4_without 43 = .ok (.aload_n 0, 1) := by decide +kernel
theorem dX4_without_44 : decode cX4_without 44 = .ok (.aload_n 0, 1) := by decide +kernel
theorem dX4_without_45 : decode cX4_without 45 = .ok (.getfield 31, 3) := by decide +kernel
theorem dX4_without_48 : decode cX4_without 48 = .ok (.invokevirtual 203, 3) := by decide +kernel
theorem dX4_without_51 : decode cX4_without 51 = .ok (.ireturn, 1) := by decide +kernel
theorem dX4_suspect_0 : decode cX4_suspect 0 = .ok (.aload_n 0, 1) := by decide +kernel
theorem dX4_suspect_1 : decode cX4_suspect 1 = .ok (.iconst 0, 1) := by decide +kernel
theorem dX4_suspect_2 : decode cX4_suspect 2 = .ok (.putfield 59, 3) := by decide +kernel
theorem dX4_suspect_5 : decode cX4_suspect 5 = .ok (.aload_n 0, 1) := by decide +kernel
theorem dX4_suspect_6 : decode cX4_suspect 6 = .ok (.aload_n 0, 1) := by decide +kernel
theorem dX4_suspect_7 : decode cX4_suspect 7 = .ok (.getfield 28, 3) := by decide +kernel
theorem dX4_suspect_10 : decode cX4_suspect 10 = .ok (.invokevirtual 125, 3) := by decide +kernel
theorem dX4_suspect_13 : decode cX4_suspect 13 = .ok (.aload_n 0, 1) := by decide +kernel
theorem dX4_suspect_14 : decode cX4_suspect 14 = .ok (.getfield 105, 3) := by decide +kernel
theorem dX4_suspect_17 : decode cX4_suspect 17 = .ok (.istore_n 1, 1) := by decide +kernel
theorem dX4_suspect_18 : decode cX4_suspect 18 = .ok (.iconst (-1), 1) := by decide +kernel
theorem dX4_suspect_19 : decode cX4_suspect 19 = .ok (.istore_n 2, 1) := by decide +kernel
theorem dX4_suspect_20 : decode cX4_suspect 20 = .ok (.iconst 0, 1) := by decide +kernel
theorem dX4_suspect_21 : decode cX4_suspect 21 = .ok (.istore_n 3, 1) := by decide +kernel
theorem dX4_suspect_22 : decode cX4_suspect 22 = .ok (.iload_n 3, 1) := by decide +kernel
theorem dX4_suspect_23 : decode cX4_suspect 23 = .ok (.aload_n 0, 1) := by decide +kernel
theorem dX4_suspect_24 : decode cX4_suspect 24 = .ok (.getfield 28, 3) := by decide +kernel
theorem dX4_suspect_27 : decode cX4_suspect 27 = .ok (.iconst 0, 1) := by decide +kernel
theorem dX4_suspect_28 : decode cX4_suspect 28 = .ok (.iaload, 1) := by decide +kernel
theorem dX4_suspect_29 : decode cX4_suspect 29 = .ok (.if_icmp .ge 61, 3) := by decide +kernel
theorem dX4_suspect_32 : decode cX4_suspect 32 = .ok (.aload_n 0, 1) := by decide +kernel
theorem dX4_suspect_33 : decode cX4_suspect 33 = .ok (.invokevirtual 270, 3) := by decide +kernel
theorem dX4_suspect_36 : decode cX4_suspect 36 = .ok (.aload_n 0, 1) := by decide +kernel
theorem dX4_suspect_37 : decode cX4_suspect 37 = .ok (.getfield 31, 3) := by decide +kernel
theorem dX4_suspect_40 : decode cX4_suspect 40 = .ok (.iload_n 3, 1) := by decide +kernel
theorem dX4_suspect_41 : decode cX4_suspect 41 = .ok (.invokestatic 252, 3) := by decide +kernel
theorem dX4_suspect_44 : decode cX4_suspect 44 = .ok (.pop, 1) := by decide +kernel
theorem dX4_suspect_45 : decode cX4_suspect 45 = .ok (.aload_n 0, 1) := by decide +kernel
theorem dX4_suspect_46 : decode cX4_suspect 46 = .ok (.aload_n 0, 1) := by decide +kernel
theorem dX4_suspect_47 : decode cX4_suspect 47 = .ok (.getfield 31, 3) := by decide +kernel
theorem dX4_suspect_50 : decode cX4_suspect 50 = .ok (.invokevirtual 125, 3) := by decide +kernel
theorem dX4_suspect_53 : decode cX4_suspect 53 = .ok (.aload_n 0, 1) := by decide +kernel
theorem dX4_suspect_54 : decode cX4_suspect 54 = .ok (.getfield 105, 3) := by decide +kernel
theorem dX4_suspect_57 : decode cX4_suspect 57 = .ok (.iload_n 1, 1) := by decide +kernel
theorem dX4_suspect_58 : decode cX4_suspect 58 = .ok (.if_icmp .ge 7, 3) := by decide +kernel
theorem dX4_suspect_61 : decode cX4_suspect 61 = .ok (.iload_n 3, 1) := by decide +kernel
theorem dX4_suspect_62 : decode cX4_suspect 62 = .ok (.goto 4, 3) := by decide +kernel
theorem dX4_suspect_65 : decode cX4_suspect 65 = .ok (.iload_n 2, 1) := by decide +kernel
theorem dX4_suspect_66 : decode cX4_suspect 66 = .ok (.istore_n 2, 1) := by decide +kernel
theorem dX4_suspect_67 : decode cX4_suspect 67 = .ok (.aload_n 0, 1) := by decide +kernel
theorem dX4_suspect_68 : decode cX4_suspect 68 = .ok (.getfield 105, 3) := by decide +kernel
theorem dX4_suspect_71 : decode cX4_suspect 71 = .ok (.iload_n 1, 1) := by decide +kernel
theorem dX4_suspect_72 : decode cX4_suspect 72 = .ok (.if_icmp .ge 10, 3) := by decide +kernel
theorem dX4_suspect_75 : decode cX4_suspect 75 = .ok (.aload_n 0, 1) := by decide +kernel
theorem dX4_suspect_76 : decode cX4_suspect 76 = .ok (.getfield 105, 3) := by decide +kernel
theorem dX4_suspect_79 : decode cX4_suspect 79 = .ok (.goto 4, 3) := by decide +kernel
theorem dX4_suspect_82 : decode cX4_suspect 82 = .ok (.iload_n 1, 1) := by decide +kernel
theorem dX4_suspect_83 : decode cX4_suspect 83 = .ok (.istore_n 1, 1) := by decide +kernel
theorem dX4_suspect_84 : decode cX4_suspect 84 = .ok (.iinc 3 1, 3) := by decide +kernel
theorem dX4_suspect_87 : decode cX4_suspect 87 = .ok (.goto (-65), 3) := by decide +kernel
theorem dX4_suspect_90 : decode cX4_suspect 90 = .ok (.iload_n 2, 1) := by decide +kernel
theorem dX4_suspect_91 : decode cX4_suspect 91 = .ok (.ireturn, 1) := by decide +kernel
theorem dX4_bestBase_0 : decode cX4_bestBase 0 = .ok (.aload_n 0, 1) := by decide +kernel
theorem dX4_bestBase_1 : decode cX4_bestBase 1 = .ok (.iconst 0, 1) := by decide +kernel
theorem dX4_bestBase_2 : decode cX4_bestBase 2 = .ok (.putfield 59, 3) := by decide +kernel
theorem dX4_bestBase_5 : decode cX4_bestBase 5 = .ok (.iconst (-1), 1) := by decide +kernel
theorem dX4_bestBase_6 : decode cX4_bestBase 6 = .ok (.istore_n 1, 1) := by decide +kernel
theorem dX4_bestBase_7 : decode cX4_bestBase 7 = .ok (.iconst 0, 1) := by decide +kernel
theorem dX4_bestBase_8 : decode cX4_bestBase 8 = .ok (.istore_n 2, 1) := by decide +kernel
theorem dX4_bestBase_9 : decode cX4_bestBase 9 = .ok (.iconst 1, 1) := by decide +kernel
theorem dX4_bestBase_10 : decode cX4_bestBase 10 = .ok (.istore_n 3, 1) := by decide +kernel
theorem dX4_bestBase_11 : decode cX4_bestBase 11 = .ok (.iload_n 3, 1) := by decide +kernel
theorem dX4_bestBase_12 : decode cX4_bestBase 12 = .ok (.bipush 20, 2) := by decide +kernel
theorem dX4_bestBase_14 : decode cX4_bestBase 14 = .ok (.if_icmp .gt 73, 3) := by decide +kernel
theorem dX4_bestBase_17 : decode cX4_bestBase 17 = .ok (.aload_n 0, 1) := by decide +kernel
theorem dX4_bestBase_18 : decode cX4_bestBase 18 = .ok (.invokevirtual 270, 3) := by decide +kernel
theorem dX4_bestBase_21 : decode cX4_bestBase 21 = .ok (.aload_n 0, 1) := by decide +kernel
theorem dX4_bestBase_22 : decode cX4_bestBase 22 = .ok (.getfield 31, 3) := by decide +kernel
theorem dX4_bestBase_25 : decode cX4_bestBase 25 = .ok (.iconst 1, 1) := by decide +kernel
theorem dX4_bestBase_26 : decode cX4_bestBase 26 = .ok (.iload_n 3, 1) := by decide +kernel
theorem dX4_bestBase_27 : decode cX4_bestBase 27 = .ok (.iastore, 1) := by decide +kernel
theorem dX4_bestBase_28 : decode cX4_bestBase 28 = .ok (.aload_n 0, 1) := by decide +kernel
theorem dX4_bestBase_29 : decode cX4_bestBase 29 = .ok (.aload_n 0, 1) := by decide +kernel
theorem dX4_bestBase_30 : decode cX4_bestBase 30 = .ok (.getfield 31, 3) := by decide +kernel
theorem dX4_bestBase_33 : decode cX4_bestBase 33 = .ok (.invokevirtual 125, 3) := by decide +kernel
theorem dX4_bestBase_36 : decode cX4_bestBase 36 = .ok (.iload_n 1, 1) := by decide +kernel
theorem dX4_bestBase_37 : decode cX4_bestBase 37 = .ok (.iconst (-1), 1) := by decide +kernel
theorem dX4_bestBase_38 : decode cX4_bestBase 38 = .ok (.if_icmp .eq 11, 3) := by decide +kernel
theorem dX4_bestBase_41 : decode cX4_bestBase 41 = .ok (.aload_n 0, 1) := by decide +kernel
theorem dX4_bestBase_42 : decode cX4_bestBase 42 = .ok (.getfield 105, 3) := by decide +kernel
theorem dX4_bestBase_45 : decode cX4_bestBase 45 = .ok (.iload_n 2, 1) := by decide +kernel
theorem dX4_bestBase_46 : decode cX4_bestBase 46 = .ok (.if_icmp .ge 7, 3) := by decide +kernel
theorem dX4_bestBase_49 : decode cX4_bestBase 49 = .ok (.iconst 1, 1) := by decide +kernel
theorem dX4_bestBase_50 : decode cX4_bestBase 50 = .ok (.goto 4, 3) := by decide +kernel
theorem dX4_bestBase_53 : decode cX4_bestBase 53 = .ok (.iconst 0, 1) := by decide +kernel
theorem dX4_bestBase_54 : decode cX4_bestBase 54 = .ok (.istore 4, 2) := by decide +kernel
theorem dX4_bestBase_56 : decode cX4_bestBase 56 = .ok (.iload 4, 2) := by decide +kernel
theorem dX4_bestBase_58 : decode cX4_bestBase 58 = .ok (.ifCond .eq 7, 3) := by decide +kernel
theorem dX4_bestBase_61 : decode cX4_bestBase 61 = .ok (.iload_n 3, 1) := by decide +kernel
theorem dX4_bestBase_62 : decode cX4_bestBase 62 = .ok (.goto 4, 3) := by decide +kernel
theorem dX4_bestBase_65 : decode cX4_bestBase 65 = .ok (.iload_n 1, 1) := by decide +kernel
theorem dX4_bestBase_66 : decode cX4_bestBase 66 = .ok (.istore_n 1, 1) := by decide +kernel
theorem dX4_bestBase_67 : decode cX4_bestBase 67 = .ok (.iload 4, 2) := by decide +kernel
theorem dX4_bestBase_69 : decode cX4_bestBase 69 = .ok (.ifCond .eq 10, 3) := by decide +kernel
theorem dX4_bestBase_72 : decode cX4_bestBase 72 = .ok (.aload_n 0, 1) := by decide +kernel
theorem dX4_bestBase_73 : decode cX4_bestBase 73 = .ok (.getfield 105, 3) := by decide +kernel
theorem dX4_bestBase_76 : decode cX4_bestBase 76 = .ok (.goto 4, 3) := by decide +kernel
theorem dX4_bestBase_79 : decode cX4_bestBase 79 = .ok (.iload_n 2, 1) := by decide +kernel
theorem dX4_bestBase_80 : decode cX4_bestBase 80 = .ok (.istore_n 2, 1) := by decide +kernel
theorem dX4_bestBase_81 : decode cX4_bestBase 81 = .ok (.iinc 3 1, 3) := by decide +kernel
theorem dX4_bestBase_84 : decode cX4_bestBase 84 = .ok (.goto (-73), 3) := by decide +kernel
theorem dX4_bestBase_87 : decode cX4_bestBase 87 = .ok (.iload_n 1, 1) := by decide +kernel
theorem dX4_bestBase_88 : decode cX4_bestBase 88 = .ok (.ireturn, 1) := by decide +kernel
theorem dX4_sureness_0 : decode cX4_sureness 0 = .ok (.aload_n 0, 1) := by decide +kernel
theorem dX4_sureness_1 : decode cX4_sureness 1 = .ok (.aload_n 0, 1) := by decide +kernel
theorem dX4_sureness_2 : decode cX4_sureness 2 = .ok (.iload_n 1, 1) := by decide +kernel
theorem dX4_sureness_3 : decode cX4_sureness 3 = .ok (.invokevirtual 211, 3) := by decide +kernel
theorem dX4_sureness_6 : decode cX4_sureness 6 = .ok (.ifCond .eq 7, 3) := by decide +kernel
theorem dX4_sureness_9 : decode cX4_sureness 9 = .ok (.iconst 0, 1) := by decide +kernel
theorem dX4_sureness_10 : decode cX4_sureness 10 = .ok (.goto 4, 3) := by decide +kernel
theorem dX4_sureness_13 : decode cX4_sureness 13 = .ok (.iconst 1, 1) := by decide +kernel
theorem dX4_sureness_14 : decode cX4_sureness 14 = .ok (.invokevirtual 134, 3) := by decide +kernel
theorem dX4_sureness_17 : decode cX4_sureness 17 = .ok (.ifCond .eq 5, 3) := by decide +kernel
theorem dX4_sureness_20 : decode cX4_sureness 20 = .ok (.iconst 0, 1) := by decide +kernel
theorem dX4_sureness_21 : decode cX4_sureness 21 = .ok (.ireturn, 1) := by decide +kernel
theorem dX4_sureness_22 : decode cX4_sureness 22 = .ok (.aload_n 0, 1) := by decide +kernel
theorem dX4_sureness_23 : decode cX4_sureness 23 = .ok (.aload_n 0, 1) := by decide +kernel
theorem dX4_sureness_24 : decode cX4_sureness 24 = .ok (.getfield 28, 3) := by decide +kernel
theorem dX4_sureness_27 : decode cX4_sureness 27 = .ok (.invokevirtual 125, 3) := by decide +kernel
theorem dX4_sureness_30 : decode cX4_sureness 30 = .ok (.aload_n 0, 1) := by decide +kernel
theorem dX4_sureness_31 : decode cX4_sureness 31 = .ok (.iload_n 1, 1) := by decide +kernel
theorem dX4_sureness_32 : decode cX4_sureness 32 = .ok (.invokevirtual 200, 3) := by decide +kernel
theorem dX4_sureness_35 : decode cX4_sureness 35 = .ok (.istore_n 2, 1) := by decide +kernel
theorem dX4_sureness_36 : decode cX4_sureness 36 = .ok (.aload_n 0, 1) := by decide +kernel
theorem dX4_sureness_37 : decode cX4_sureness 37 = .ok (.aload_n 0, 1) := by decide +kernel
theorem dX4_sureness_38 : decode cX4_sureness 38 = .ok (.getfield 28, 3) := by decide +kernel
theorem dX4_sureness_41 : decode cX4_sureness 41 = .ok (.aload_n 0, 1) := by decide +kernel
theorem dX4_sureness_42 : decode cX4_sureness 42 = .ok (.getfield 50, 3) := by decide +kernel
theorem dX4_sureness_45 : decode cX4_sureness 45 = .ok (.iload_n 2, 1) := by decide +kernel
theorem dX4_sureness_46 : decode cX4_sureness 46 = .ok (.iaload, 1) := by decide +kernel
theorem dX4_sureness_47 : decode cX4_sureness 47 = .ok (.aload_n 0, 1) := by decide +kernel
theorem dX4_sureness_48 : decode cX4_sureness 48 = .ok (.getfield 50, 3) := by decide +kernel
theorem dX4_sureness_51 : decode cX4_sureness 51 = .ok (.iload_n 2, 1) := by decide +kernel
theorem dX4_sureness_52 : decode cX4_sureness 52 = .ok (.iconst 1, 1) := by decide +kernel
theorem dX4_sureness_53 : decode cX4_sureness 53 = .ok (.iadd, 1) := by decide +kernel
theorem dX4_sureness_54 : decode cX4_sureness 54 = .ok (.iaload, 1) := by decide +kernel
theorem dX4_sureness_55 : decode cX4_sureness 55 = .ok (.iload_n 1, 1) := by decide +kernel
theorem dX4_sureness_56 : decode cX4_sureness 56 = .ok (.invokevirtual 108, 3) := by decide +kernel
theorem dX4_sureness_59 : decode cX4_sureness 59 = .ok (.aload_n 0, 1) := by decide +kernel
theorem dX4_sureness_60 : decode cX4_sureness 60 = .ok (.getfield 53, 3) := by decide +kernel
theorem dX4_sureness_63 : decode cX4_sureness 63 = .ok (.iload_n 2, 1) := by decide +kernel
theorem dX4_sureness_64 : decode cX4_sureness 64 = .ok (.iaload, 1) := by decide +kernel
theorem dX4_sureness_65 : decode cX4_sureness 65 = .ok (.isub, 1) := by decide +kernel
theorem dX4_sureness_66 : decode cX4_sureness 66 = .ok (.ireturn, 1) := by decide +kernel
theorem dX4_plans_0 : decode cX4_plans 0 = .ok (.aload_n 0, 1) := by decide +kernel
theorem dX4_plans_1 : decode cX4_plans 1 = .ok (.aload_n 0, 1) := by decide +kernel
theorem dX4_plans_2 : decode cX4_plans 2 = .ok (.getfield 28, 3) := by decide +kernel
theorem dX4_plans_5 : decode cX4_plans 5 = .ok (.invokevirtual 125, 3) := by decide +kernel
theorem dX4_plans_8 : decode cX4_plans 8 = .ok (.aload_n 0, 1) := by decide +kernel
theorem dX4_plans_9 : decode cX4_plans 9 = .ok (.iload_n 1, 1) := by decide +kernel
theorem dX4_plans_10 : decode cX4_plans 10 = .ok (.i2l, 1) := by decide +kernel
theorem dX4_plans_11 : decode cX4_plans 11 = .ok (.lconst 0, 1) := by decide +kernel
theorem dX4_plans_12 : decode cX4_plans 12 = .ok (.aload_n 0, 1) := by decide +kernel
theorem dX4_plans_13 : decode cX4_plans 13 = .ok (.getfield 102, 3) := by decide +kernel
theorem dX4_plans_16 : decode cX4_plans 16 = .ok (.iconst 1, 1) := by decide +kernel
theorem dX4_plans_17 : decode cX4_plans 17 = .ok (.isub, 1) := by decide +kernel
theorem dX4_plans_18 : decode cX4_plans 18 = .ok (.i2l, 1) := by decide +kernel
theorem dX4_plans_19 : decode cX4_plans 19 = .ok (.invokestatic 118, 3) := by decide +kernel
theorem dX4_plans_22 : decode cX4_plans 22 = .ok (.ifCond .eq 7, 3) := by decide +kernel
theorem dX4_plans_25 : decode cX4_plans 25 = .ok (.iconst 0, 1) := by decide +kernel
theorem dX4_plans_26 : decode cX4_plans 26 = .ok (.goto 4, 3) := by decide +kernel
theorem dX4_plans_29 : decode cX4_plans 29 = .ok (.iconst 1, 1) := by decide +kernel
theorem dX4_plans_30 : decode cX4_plans 30 = .ok (.invokevirtual 134, 3) := by decide +kernel
theorem dX4_plans_33 : decode cX4_plans 33 = .ok (.ifCond .eq 5, 3) := by decide +kernel
theorem dX4_plans_36 : decode cX4_plans 36 = .ok (.iconst 0, 1) := by decide +kernel
theorem dX4_plans_37 : decode cX4_plans 37 = .ok (.ireturn, 1) := by decide +kernel
theorem dX4_plans_38 : decode cX4_plans 38 = .ok (.iconst 1, 1) := by decide +kernel
theorem dX4_plans_39 : decode cX4_plans 39 = .ok (.istore_n 2, 1) := by decide +kernel
theorem dX4_plans_40 : decode cX4_plans 40 = .ok (.iconst 1, 1) := by decide +kernel
theorem dX4_plans_41 : decode cX4_plans 41 = .ok (.istore_n 3, 1) := by decide +kernel
theorem dX4_plans_42 : decode cX4_plans 42 = .ok (.aload_n 0, 1) := by decide +kernel
theorem dX4_plans_43 : decode cX4_plans 43 = .ok (.getfield 50, 3) := by decide +kernel
theorem dX4_plans_46 : decode cX4_plans 46 = .ok (.iload_n 1, 1) := by decide +kernel
theorem dX4_plans_47 : decode cX4_plans 47 = .ok (.iaload, 1) := by decide +kernel
theorem dX4_plans_48 : decode cX4_plans 48 = .ok (.iconst 1, 1) := by decide +kernel
theorem dX4_plans_49 : decode cX4_plans 49 = .ok (.iadd, 1) := by decide +kernel
theorem dX4_plans_50 : decode cX4_plans 50 = .ok (.istore 4, 2) := by decide +kernel
theorem dX4_plans_52 : decode cX4_plans 52 = .ok (.iload 4, 2) := by decide +kernel
theorem dX4_plans_54 : decode cX4_plans 54 = .ok (.aload_n 0, 1) := by decide +kernel
theorem dX4_plans_55 : decode cX4_plans 55 = .ok (.getfield 50, 3) := by decide +kernel
theorem dX4_plans_58 : decode cX4_plans 58 = .ok (.iload_n 1, 1) := by decide +kernel
theorem dX4_plans_59 : decode cX4_plans 59 = .ok (.iconst 1, 1) := by decide +kernel
theorem dX4_plans_60 : decode cX4_plans 60 = .ok (.iadd, 1) := by decide +kernel
theorem dX4_plans_61 : decode cX4_plans 61 = .ok (.iaload, 1) := by decide +kernel
theorem dX4_plans_62 : decode cX4_plans 62 = .ok (.if_icmp .ge 19, 3) := by decide +kernel
theorem dX4_plans_65 : decode cX4_plans 65 = .ok (.iload_n 2, 1) := by decide +kernel
theorem dX4_plans_66 : decode cX4_plans 66 = .ok (.iload_n 3, 1) := by decide +kernel
theorem dX4_plans_67 : decode cX4_plans 67 = .ok (.iadd, 1) := by decide +kernel
theorem dX4_plans_68 : decode cX4_plans 68 = .ok (.istore 5, 2) := by decide +kernel
theorem dX4_plans_70 : decode cX4_plans 70 = .ok (.iload_n 2, 1) := by decide +kernel
theorem dX4_plans_71 : decode cX4_plans 71 = .ok (.istore_n 3, 1) := by decide +kernel
theorem dX4_plans_72 : decode cX4_plans 72 = .ok (.iload 5, 2) := by decide +kernel
theorem dX4_plans_74 : decode cX4_plans 74 = .ok (.istore_n 2, 1) := by decide +kernel
theorem dX4_plans_75 : decode cX4_plans 75 = .ok (.iinc 4 1, 3) := by decide +kernel
theorem dX4_plans_78 : decode cX4_plans 78 = .ok (.goto (-26), 3) := by decide +kernel
theorem dX4_plans_81 : decode cX4_plans 81 = .ok (.iload_n 2, 1) := by decide +kernel
theorem dX4_plans_82 : decode cX4_plans 82 = .ok (.ldc_w 273, 3) := by decide +kernel
theorem dX4_plans_85 : decode cX4_plans 85 = .ok (.if_icmp .le 9, 3) := by decide +kernel
theorem dX4_plans_88 : decode cX4_plans 88 = .ok (.ldc_w 273, 3) := by decide +kernel
theorem dX4_plans_91 : decode cX4_plans 91 = .ok (.goto 4, 3) := by decide +kernel
theorem dX4_plans_94 : decode cX4_plans 94 = .ok (.iload_n 2, 1) := by decide +kernel
theorem dX4_plans_95 : decode cX4_plans 95 = .ok (.ireturn, 1) := by decide +kernel
theorem dX4_heavy_0 : decode cX4_heavy 0 = .ok (.aload_n 0, 1) := by decide +kernel
theorem dX4_heavy_1 : decode cX4_heavy 1 = .ok (.iload_n 1, 1) := by decide +kernel
theorem dX4_heavy_2 : decode cX4_heavy 2 = .ok (.ifCond .ge 7, 3) := by decide +kernel
theorem dX4_heavy_5 : decode cX4_heavy 5 = .ok (.iconst 1, 1) := by decide +kernel
theorem dX4_heavy_6 : decode cX4_heavy 6 = .ok (.goto 4, 3) := by decide +kernel
theorem dX4_heavy_9 : decode cX4_heavy 9 = .ok (.iconst 0, 1) := by decide +kernel
theorem dX4_heavy_10 : decode cX4_heavy 10 = .ok (.invokevirtual 134, 3) := by decide +kernel
theorem dX4_heavy_13 : decode cX4_heavy 13 = .ok (.ifCond .eq 5, 3) := by decide +kernel
theorem dX4_heavy_16 : decode cX4_heavy 16 = .ok (.iconst 0, 1) := by decide +kernel
theorem dX4_heavy_17 : decode cX4_heavy 17 = .ok (.ireturn, 1) := by decide +kernel
theorem dX4_heavy_18 : decode cX4_heavy 18 = .ok (.aload_n 0, 1) := by decide +kernel
theorem dX4_heavy_19 : decode cX4_heavy 19 = .ok (.aload_n 0, 1) := by decide +kernel
theorem dX4_heavy_20 : decode cX4_heavy 20 = .ok (.getfield 28, 3) := by decide +kernel
theorem dX4_heavy_23 : decode cX4_heavy 23 = .ok (.invokevirtual 125, 3) := by decide +kernel
theorem dX4_heavy_26 : decode cX4_heavy 26 = .ok (.iconst 0, 1) := by decide +kernel
theorem dX4_heavy_27 : decode cX4_heavy 27 = .ok (.istore_n 2, 1) := by decide +kernel
theorem dX4_heavy_28 : decode cX4_heavy 28 = .ok (.iconst 0, 1) := by decide +kernel
theorem dX4_heavy_29 : decode cX4_heavy 29 = .ok (.istore_n 3, 1) := by decide +kernel
theorem dX4_heavy_30 : decode cX4_heavy 30 = .ok (.iload_n 3, 1) := by decide +kernel
theorem dX4_heavy_31 : decode cX4_heavy 31 = .ok (.aload_n 0, 1) := by decide +kernel
theorem dX4_heavy_32 : decode cX4_heavy 32 = .ok (.getfield 99, 3) := by decide +kernel
theorem dX4_heavy_35 : decode cX4_heavy 35 = .ok (.if_icmp .ge 41, 3) := by decide +kernel
theorem dX4_heavy_38 : decode cX4_heavy 38 = .ok (.iload_n 2, 1) := by decide +kernel
theorem dX4_heavy_39 : decode cX4_heavy 39 = .ok (.aload_n 0, 1) := by decide +kernel
theorem dX4_heavy_40 : decode cX4_heavy 40 = .ok (.getfield 28, 3) := by decide +kernel
theorem dX4_heavy_43 : decode cX4_heavy 43 = .ok (.aload_n 0, 1) := by decide +kernel
theorem dX4_heavy_44 : decode cX4_heavy 44 = .ok (.getfield 56, 3) := by decide +kernel
theorem dX4_heavy_47 : decode cX4_heavy 47 = .ok (.iload_n 3, 1) := by decide +kernel
theorem dX4_heavy_48 : decode cX4_heavy 48 = .ok (.iaload, 1) := by decide +kernel
theorem dX4_heavy_49 : decode cX4_heavy 49 = .ok (.invokestatic 115, 3) := by decide +kernel
theorem dX4_heavy_52 : decode cX4_heavy 52 = .ok (.iload_n 1, 1) := by decide +kernel
theorem dX4_heavy_53 : decode cX4_heavy 53 = .ok (.if_icmp .lt 14, 3) := by decide +kernel
theorem dX4_heavy_56 : decode cX4_heavy 56 = .ok (.iconst 3, 1) := by decide +kernel
theorem dX4_heavy_57 : decode cX4_heavy 57 = .ok (.aload_n 0, 1) := by decide +kernel
theorem dX4_heavy_58 : decode cX4_heavy 58 = .ok (.getfield 56, 3) := by decide +kernel
theorem dX4_heavy_61 : decode cX4_heavy 61 = .ok (.iload_n 3, 1) := by decide +kernel
theorem dX4_heavy_62 : decode cX4_heavy 62 = .ok (.iaload, 1) := by decide +kernel
theorem dX4_heavy_63 : decode cX4_heavy 63 = .ok (.ishl, 1) := by decide +kernel
theorem dX4_heavy_64 : decode cX4_heavy 64 = .ok (.goto 4, 3) := by decide +kernel
theorem dX4_heavy_67 : decode cX4_heavy 67 = .ok (.iconst 0, 1) := by decide +kernel
theorem dX4_heavy_68 : decode cX4_heavy 68 = .ok (.ior, 1) := by decide +kernel
theorem dX4_heavy_69 : decode cX4_heavy 69 = .ok (.istore_n 2, 1) := by decide +kernel
theorem dX4_heavy_70 : decode cX4_heavy 70 = .ok (.iinc 3 1, 3) := by decide +kernel
theorem dX4_heavy_73 : decode cX4_heavy 73 = .ok (.goto (-43), 3) := by decide +kernel
theorem dX4_heavy_76 : decode cX4_heavy 76 = .ok (.iload_n 2, 1) := by decide +kernel
theorem dX4_heavy_77 : decode cX4_heavy 77 = .ok (.ireturn, 1) := by decide +kernel
theorem dX4_rolls_0 : decode cX4_rolls 0 = .ok (.iload_n 1, 1) := by decide +kernel
theorem dX4_rolls_1 : decode cX4_rolls 1 = .ok (.invokestatic 240, 3) := by decide +kernel
theorem dX4_rolls_4 : decode cX4_rolls 4 = .ok (.ifCond .eq 21, 3) := by decide +kernel
theorem dX4_rolls_7 : decode cX4_rolls 7 = .ok (.iload_n 2, 1) := by decide +kernel
theorem dX4_rolls_8 : decode cX4_rolls 8 = .ok (.invokestatic 243, 3) := by decide +kernel
theorem dX4_rolls_11 : decode cX4_rolls 11 = .ok (.ifCond .eq 14, 3) := by decide +kernel
theorem dX4_rolls_14 : decode cX4_rolls 14 = .ok (.aload_n 0, 1) := by decide +kernel
theorem dX4_rolls_15 : decode cX4_rolls 15 = .ok (.getfield 31, 3) := by decide +kernel
theorem dX4_rolls_18 : decode cX4_rolls 18 = .ok (.iconst 0, 1) := by decide +kernel
theorem dX4_rolls_19 : decode cX4_rolls 19 = .ok (.iaload, 1) := by decide +kernel
theorem dX4_rolls_20 : decode cX4_rolls 20 = .ok (.bipush 30, 2) := by decide +kernel
theorem dX4_rolls_22 : decode cX4_rolls 22 = .ok (.if_icmp .ne 5, 3) := by decide +kernel
theorem dX4_rolls_25 : decode cX4_rolls 25 = .ok (.iconst 0, 1) := by decide +kernel
theorem dX4_rolls_26 : decode cX4_rolls 26 = .ok (.ireturn, 1) := by decide +kernel
theorem dX4_rolls_27 : decode cX4_rolls 27 = .ok (.aload_n 0, 1) := by decide +kernel
theorem dX4_rolls_28 : decode cX4_rolls 28 = .ok (.getfield 31, 3) := by decide +kernel
theorem dX4_rolls_31 : decode cX4_rolls 31 = .ok (.iload_n 1, 1) := by decide +kernel
theorem dX4_rolls_32 : decode cX4_rolls 32 = .ok (.iload_n 2, 1) := by decide +kernel
theorem dX4_rolls_33 : decode cX4_rolls 33 = .ok (.invokestatic 249, 3) := by decide +kernel
theorem dX4_rolls_36 : decode cX4_rolls 36 = .ok (.pop, 1) := by decide +kernel
theorem dX4_rolls_37 : decode cX4_rolls 37 = .ok (.iconst 1, 1) := by decide +kernel
theorem dX4_rolls_38 : decode cX4_rolls 38 = .ok (.ireturn, 1) := by decide +kernel
theorem dX4_strikes_0 : decode cX4_strikes 0 = .ok (.iload_n 1, 1) := by decide +kernel
theorem dX4_strikes_1 : decode cX4_strikes 1 = .ok (.aload_n 0, 1) := by decide +kernel
theorem dX4_strikes_2 : decode cX4_strikes 2 = .ok (.getfield 31, 3) := by decide +kernel
theorem dX4_strikes_5 : decode cX4_strikes 5 = .ok (.iconst 0, 1) := by decide +kernel
theorem dX4_strikes_6 : decode cX4_strikes 6 = .ok (.iaload, 1) := by decide +kernel
theorem dX4_strikes_7 : decode cX4_strikes 7 = .ok (.if_icmp .lt 5, 3) := by decide +kernel
theorem dX4_strikes_10 : decode cX4_strikes 10 = .ok (.iconst 0, 1) := by decide +kernel
theorem dX4_strikes_11 : decode cX4_strikes 11 = .ok (.ireturn, 1) := by decide +kernel
theorem dX4_strikes_12 : decode cX4_strikes 12 = .ok (.aload_n 0, 1) := by decide +kernel
theorem dX4_strikes_13 : decode cX4_strikes 13 = .ok (.getfield 31, 3) := by decide +kernel
theorem dX4_strikes_16 : decode cX4_strikes 16 = .ok (.iload_n 1, 1) := by decide +kernel
theorem dX4_strikes_17 : decode cX4_strikes 17 = .ok (.invokestatic 252, 3) := by decide +kernel
theorem dX4_strikes_20 : decode cX4_strikes 20 = .ok (.pop, 1) := by decide +kernel
theorem dX4_strikes_21 : decode cX4_strikes 21 = .ok (.iconst 1, 1) := by decide +kernel
theorem dX4_strikes_22 : decode cX4_strikes 22 = .ok (.ireturn, 1) := by decide +kernel
theorem dX4_weighs_0 : decode cX4_weighs 0 = .ok (.iload_n 1, 1) := by decide +kernel
theorem dX4_weighs_1 : decode cX4_weighs 1 = .ok (.aload_n 0, 1) := by decide +kernel
theorem dX4_weighs_2 : decode cX4_weighs 2 = .ok (.getfield 31, 3) := by decide +kernel
theorem dX4_weighs_5 : decode cX4_weighs 5 = .ok (.iconst 0, 1) := by decide +kernel
theorem dX4_weighs_6 : decode cX4_weighs 6 = .ok (.iaload, 1) := by decide +kernel
theorem dX4_weighs_7 : decode cX4_weighs 7 = .ok (.if_icmp .ge 10, 3) := by decide +kernel
theorem dX4_weighs_10 : decode cX4_weighs 10 = .ok (.iload_n 2, 1) := by decide +kernel
theorem dX4_weighs_11 : decode cX4_weighs 11 = .ok (.invokestatic 243, 3) := by decide +kernel
theorem dX4_weighs_14 : decode cX4_weighs 14 = .ok (.ifCond .ne 5, 3) := by decide +kernel
theorem dX4_weighs_17 : decode cX4_weighs 17 = .ok (.iconst 0, 1) := by decide +kernel
theorem dX4_weighs_18 : decode cX4_weighs 18 = .ok (.ireturn, 1) := by decide +kernel
theorem dX4_weighs_19 : decode cX4_weighs 19 = .ok (.aload_n 0, 1) := by decide +kernel
theorem dX4_weighs_20 : decode cX4_weighs 20 = .ok (.getfield 31, 3) := by decide +kernel
theorem dX4_weighs_23 : decode cX4_weighs 23 = .ok (.bipush 65, 2) := by decide +kernel
theorem dX4_weighs_25 : decode cX4_weighs 25 = .ok (.iload_n 1, 1) := by decide +kernel
theorem dX4_weighs_26 : decode cX4_weighs 26 = .ok (.iadd, 1) := by decide +kernel
theorem dX4_weighs_27 : decode cX4_weighs 27 = .ok (.iload_n 2, 1) := by decide +kernel
theorem dX4_weighs_28 : decode cX4_weighs 28 = .ok (.iastore, 1) := by decide +kernel
theorem dX4_weighs_29 : decode cX4_weighs 29 = .ok (.iconst 1, 1) := by decide +kernel
theorem dX4_weighs_30 : decode cX4_weighs 30 = .ok (.ireturn, 1) := by decide +kernel
theorem dX4_sets_0 : decode cX4_sets 0 = .ok (.iload_n 1, 1) := by decide +kernel
theorem dX4_sets_1 : decode cX4_sets 1 = .ok (.iload_n 2, 1) := by decide +kernel
theorem dX4_sets_2 : decode cX4_sets 2 = .ok (.invokestatic 263, 3) := by decide +kernel
theorem dX4_sets_5 : decode cX4_sets 5 = .ok (.ifCond .ne 5, 3) := by decide +kernel
theorem dX4_sets_8 : decode cX4_sets 8 = .ok (.iconst 0, 1) := by decide +kernel
theorem dX4_sets_9 : decode cX4_sets 9 = .ok (.ireturn, 1) := by decide +kernel
theorem dX4_sets_10 : decode cX4_sets 10 = .ok (.aload_n 0, 1) := by decide +kernel
theorem dX4_sets_11 : decode cX4_sets 11 = .ok (.getfield 31, 3) := by decide +kernel
theorem dX4_sets_14 : decode cX4_sets 14 = .ok (.iconst 1, 1) := by decide +kernel
theorem dX4_sets_15 : decode cX4_sets 15 = .ok (.iload_n 1, 1) := by decide +kernel
theorem dX4_sets_16 : decode cX4_sets 16 = .ok (.iadd, 1) := by decide +kernel
theorem dX4_sets_17 : decode cX4_sets 17 = .ok (.iload_n 2, 1) := by decide +kernel
theorem dX4_sets_18 : decode cX4_sets 18 = .ok (.iastore, 1) := by decide +kernel
theorem dX4_sets_19 : decode cX4_sets 19 = .ok (.iconst 1, 1) := by decide +kernel
theorem dX4_sets_20 : decode cX4_sets 20 = .ok (.ireturn, 1) := by decide +kernel
theorem dX4_leaves_0 : decode cX4_leaves 0 = .ok (.aload_n 0, 1) := by decide +kernel
theorem dX4_leaves_1 : decode cX4_leaves 1 = .ok (.getfield 31, 3) := by decide +kernel
theorem dX4_leaves_4 : decode cX4_leaves 4 = .ok (.iconst 0, 1) := by decide +kernel
theorem dX4_leaves_5 : decode cX4_leaves 5 = .ok (.iaload, 1) := by decide +kernel
theorem dX4_leaves_6 : decode cX4_leaves 6 = .ok (.ifCond .ne 5, 3) := by decide +kernel
theorem dX4_leaves_9 : decode cX4_leaves 9 = .ok (.iconst 0, 1) := by decide +kernel
theorem dX4_leaves_10 : decode cX4_leaves 10 = .ok (.ireturn, 1) := by decide +kernel
theorem dX4_leaves_11 : decode cX4_leaves 11 = .ok (.aload_n 0, 1) := by decide +kernel
theorem dX4_leaves_12 : decode cX4_leaves 12 = .ok (.aload_n 0, 1) := by decide +kernel
theorem dX4_leaves_13 : decode cX4_leaves 13 = .ok (.getfield 31, 3) := by decide +kernel
theorem dX4_leaves_16 : decode cX4_leaves 16 = .ok (.invokevirtual 267, 3) := by decide +kernel
theorem dX4_leaves_19 : decode cX4_leaves 19 = .ok (.pop, 1) := by decide +kernel
theorem dX4_leaves_20 : decode cX4_leaves 20 = .ok (.iconst 1, 1) := by decide +kernel
theorem dX4_leaves_21 : decode cX4_leaves 21 = .ok (.ireturn, 1) := by decide +kernel
theorem dX4_does_0 : decode cX4_does 0 = .ok (.iload_n 1, 1) := by decide +kernel
theorem dX4_does_1 : decode cX4_does 1 = .ok (.sipush 10000, 3) := by decide +kernel
theorem dX4_does_4 : decode cX4_does 4 = .ok (.idiv, 1) := by decide +kernel
theorem dX4_does_5 : decode cX4_does 5 = .ok (.istore_n 2, 1) := by decide +kernel
theorem dX4_does_6 : decode cX4_does 6 = .ok (.iload_n 1, 1) := by decide +kernel
theorem dX4_does_7 : decode cX4_does 7 = .ok (.bipush 100, 2) := by decide +kernel
theorem dX4_does_9 : decode cX4_does 9 = .ok (.idiv, 1) := by decide +kernel
theorem dX4_does_10 : decode cX4_does 10 = .ok (.bipush 100, 2) := by decide +kernel
theorem dX4_does_12 : decode cX4_does 12 = .ok (.irem, 1) := by decide +kernel
theorem dX4_does_13 : decode cX4_does 13 = .ok (.istore_n 3, 1) := by decide +kernel
theorem dX4_does_14 : decode cX4_does 14 = .ok (.iload_n 1, 1) := by decide +kernel
theorem dX4_does_15 : decode cX4_does 15 = .ok (.bipush 100, 2) := by decide +kernel
theorem dX4_does_17 : decode cX4_does 17 = .ok (.irem, 1) := by decide +kernel
theorem dX4_does_18 : decode cX4_does 18 = .ok (.istore 4, 2) := by decide +kernel
theorem dX4_does_20 : decode cX4_does 20 = .ok (.aload_n 0, 1) := by decide +kernel
theorem dX4_does_21 : decode cX4_does 21 = .ok (.aload_n 0, 1) := by decide +kernel
theorem dX4_does_22 : decode cX4_does 22 = .ok (.getfield 31, 3) := by decide +kernel
theorem dX4_does_25 : decode cX4_does 25 = .ok (.invokevirtual 125, 3) := by decide +kernel
theorem dX4_does_28 : decode cX4_does 28 = .ok (.iload_n 2, 1) := by decide +kernel
theorem dX4_does_29 : decode cX4_does 29 = .ok (.tableswitch 257 1 9 #[51, 59, 78, 86, 117, 138, 157, 185, 207], 51) := by decide +kernel
theorem dX4_does_80 : decode cX4_does 80 = .ok (.aload_n 0, 1) := by decide +kernel
theorem dX4_does_81 : decode cX4_does 81 = .ok (.iload_n 3, 1) := by decide +kernel
theorem dX4_does_82 : decode cX4_does 82 = .ok (.iload 4, 2) := by decide +kernel
theorem dX4_does_84 : decode cX4_does 84 = .ok (.invokevirtual 274, 3) := by decide +kernel
theorem dX4_does_87 : decode cX4_does 87 = .ok (.ireturn, 1) := by decide +kernel
theorem dX4_does_88 : decode cX4_does 88 = .ok (.iload 4, 2) := by decide +kernel
theorem dX4_does_90 : decode cX4_does 90 = .ok (.ifCond .ne 15, 3) := by decide +kernel
theorem dX4_does_93 : decode cX4_does 93 = .ok (.aload_n 0, 1) := by decide +kernel
theorem dX4_does_94 : decode cX4_does 94 = .ok (.iload_n 3, 1) := by decide +kernel
theorem dX4_does_95 : decode cX4_does 95 = .ok (.invokevirtual 277, 3) := by decide +kernel
theorem dX4_does_98 : decode cX4_does 98 = .ok (.ifCond .eq 7, 3) := by decide +kernel
theorem dX4_does_101 : decode cX4_does 101 = .ok (.iconst 1, 1) := by decide +kernel
theorem dX4_does_102 : decode cX4_does 102 = .ok (.goto 4, 3) := by decide +kernel
theorem dX4_does_105 : decode cX4_does 105 = .ok (.iconst 0, 1) := by decide +kernel
theorem dX4_does_106 : decode cX4_does 106 = .ok (.ireturn, 1) := by decide +kernel
theorem dX4_does_107 : decode cX4_does 107 = .ok (.aload_n 0, 1) := by decide +kernel
theorem dX4_does_108 : decode cX4_does 108 = .ok (.iload_n 3, 1) := by decide +kernel
theorem dX4_does_109 : decode cX4_does 109 = .ok (.iload 4, 2) := by decide +kernel
theorem dX4_does_111 : decode cX4_does 111 = .ok (.invokevirtual 280, 3) := by decide +kernel
theorem dX4_does_114 : decode cX4_does 114 = .ok (.ireturn, 1) := by decide +kernel
theorem dX4_does_115 : decode cX4_does 115 = .ok (.iload_n 1, 1) := by decide +kernel
theorem dX4_does_116 : decode cX4_does 116 = .ok (.bipush 10, 2) := by decide +kernel
theorem dX4_does_118 : decode cX4_does 118 = .ok (.irem, 1) := by decide +kernel
theorem dX4_does_119 : decode cX4_does 119 = .ok (.ifCond .ne 25, 3) := by decide +kernel
theorem dX4_does_122 : decode cX4_does 122 = .ok (.aload_n 0, 1) := by decide +kernel
theorem dX4_does_123 : decode cX4_does 123 = .ok (.iload_n 3, 1) := by decide +kernel
theorem dX4_does_124 : decode cX4_does 124 = .ok (.bipush 10, 2) := by decide +kernel
theorem dX4_does_126 : decode cX4_does 126 = .ok (.idiv, 1) := by decide +kernel
theorem dX4_does_127 : decode cX4_does 127 = .ok (.iload_n 1, 1) := by decide +kernel
theorem dX4_does_128 : decode cX4_does 128 = .ok (.bipush 10, 2) := by decide +kernel
theorem dX4_does_130 : decode cX4_does 130 = .ok (.idiv, 1) := by decide +kernel
theorem dX4_does_131 : decode cX4_does 131 = .ok (.bipush 100, 2) := by decide +kernel
theorem dX4_does_133 : decode cX4_does 133 = .ok (.irem, 1) := by decide +kernel
theorem dX4_does_134 : decode cX4_does 134 = .ok (.invokevirtual 283, 3) := by decide +kernel
theorem dX4_does_137 : decode cX4_does 137 = .ok (.ifCond .eq 7, 3) := by decide +kernel
theorem dX4_does_140 : decode cX4_does 140 = .ok (.iconst 1, 1) := by decide +kernel
theorem dX4_does_141 : decode cX4_does 141 = .ok (.goto 4, 3) := by decide +kernel
theorem dX4_does_144 : decode cX4_does 144 = .ok (.iconst 0, 1) := by decide +kernel
theorem dX4_does_145 : decode cX4_does 145 = .ok (.ireturn, 1) := by decide +kernel
theorem dX4_does_146 : decode cX4_does 146 = .ok (.iload_n 1, 1) := by decide +kernel
theorem dX4_does_147 : decode cX4_does 147 = .ok (.sipush 10000, 3) := by decide +kernel
theorem dX4_does_150 : decode cX4_does 150 = .ok (.irem, 1) := by decide +kernel
theorem dX4_does_151 : decode cX4_does 151 = .ok (.ifCond .ne 14, 3) := by decide +kernel
theorem dX4_does_154 : decode cX4_does 154 = .ok (.aload_n 0, 1) := by decide +kernel
theorem dX4_does_155 : decode cX4_does 155 = .ok (.invokevirtual 286, 3) := by decide +kernel
theorem dX4_does_158 : decode cX4_does 158 = .ok (.ifCond .eq 7, 3) := by decide +kernel
theorem dX4_does_161 : decode cX4_does 161 = .ok (.iconst 1, 1) := by decide +kernel
theorem dX4_does_162 : decode cX4_does 162 = .ok (.goto 4, 3) := by decide +kernel
theorem dX4_does_165 : decode cX4_does 165 = .ok (.iconst 0, 1) := by decide +kernel
theorem dX4_does_166 : decode cX4_does 166 = .ok (.ireturn, 1) := by decide +kernel
theorem dX4_does_167 : decode cX4_does 167 = .ok (.iload_n 3, 1) := by decide +kernel
theorem dX4_does_168 : decode cX4_does 168 = .ok (.ifCond .ne 16, 3) := by decide +kernel
theorem dX4_does_171 : decode cX4_does 171 = .ok (.aload_n 0, 1) := by decide +kernel
theorem dX4_does_172 : decode cX4_does 172 = .ok (.getfield 99, 3) := by decide +kernel
theorem dX4_does_175 : decode cX4_does 175 = .ok (.iload 4, 2) := by decide +kernel
theorem dX4_does_177 : decode cX4_does 177 = .ok (.if_icmp .lt 7, 3) := by decide +kernel
theorem dX4_does_180 : decode cX4_does 180 = .ok (.iconst 1, 1) := by decide +kernel
theorem dX4_does_181 : decode cX4_does 181 = .ok (.goto 4, 3) := by decide +kernel
theorem dX4_does_184 : decode cX4_does 184 = .ok (.iconst 0, 1) := by decide +kernel
theorem dX4_does_185 : decode cX4_does 185 = .ok (.ireturn, 1) := by decide +kernel
theorem dX4_does_186 : decode cX4_does 186 = .ok (.iload_n 3, 1) := by decide +kernel
theorem dX4_does_187 : decode cX4_does 187 = .ok (.ifCond .ne 25, 3) := by decide +kernel
theorem dX4_does_190 : decode cX4_does 190 = .ok (.aload_n 0, 1) := by decide +kernel
theorem dX4_does_191 : decode cX4_does 191 = .ok (.getfield 31, 3) := by decide +kernel
theorem dX4_does_194 : decode cX4_does 194 = .ok (.iconst 0, 1) := by decide +kernel
theorem dX4_does_195 : decode cX4_does 195 = .ok (.iaload, 1) := by decide +kernel
theorem dX4_does_196 : decode cX4_does 196 = .ok (.iconst 2, 1) := by decide +kernel
theorem dX4_does_197 : decode cX4_does 197 = .ok (.aload_n 0, 1) := by decide +kernel
theorem dX4_does_198 : decode cX4_does 198 = .ok (.getfield 99, 3) := by decide +kernel
theorem dX4_does_201 : decode cX4_does 201 = .ok (.imul, 1) := by decide +kernel
theorem dX4_does_202 : decode cX4_does 202 = .ok (.isub, 1) := by decide +kernel
theorem dX4_does_203 : decode cX4_does 203 = .ok (.iload 4, 2) := by decide +kernel
theorem dX4_does_205 : decode cX4_does 205 = .ok (.if_icmp .gt 7, 3) := by decide +kernel
theorem dX4_does_208 : decode cX4_does 208 = .ok (.iconst 1, 1) := by decide +kernel
theorem dX4_does_209 : decode cX4_does 209 = .ok (.goto 4, 3) := by decide +kernel
theorem dX4_does_212 : decode cX4_does 212 = .ok (.iconst 0, 1) := by decide +kernel
theorem dX4_does_213 : decode cX4_does 213 = .ok (.ireturn, 1) := by decide +kernel
theorem dX4_does_214 : decode cX4_does 214 = .ok (.aload_n 0, 1) := by decide +kernel
theorem dX4_does_215 : decode cX4_does 215 = .ok (.aload_n 0, 1) := by decide +kernel
theorem dX4_does_216 : decode cX4_does 216 = .ok (.getfield 31, 3) := by decide +kernel
theorem dX4_does_219 : decode cX4_does 219 = .ok (.invokevirtual 203, 3) := by decide +kernel
theorem dX4_does_222 : decode cX4_does 222 = .ok (.iload_n 1, 1) := by decide +kernel
theorem dX4_does_223 : decode cX4_does 223 = .ok (.sipush 10000, 3) := by decide +kernel
theorem dX4_does_226 : decode cX4_does 226 = .ok (.irem, 1) := by decide +kernel
theorem dX4_does_227 : decode cX4_does 227 = .ok (.if_icmp .lt 7, 3) := by decide +kernel
theorem dX4_does_230 : decode cX4_does 230 = .ok (.iconst 1, 1) := by decide +kernel
theorem dX4_does_231 : decode cX4_does 231 = .ok (.goto 4, 3) := by decide +kernel
theorem dX4_does_234 : decode cX4_does 234 = .ok (.iconst 0, 1) := by decide +kernel
theorem dX4_does_235 : decode cX4_does 235 = .ok (.ireturn, 1) := by decide +kernel
theorem dX4_does_236 : decode cX4_does 236 = .ok (.iload_n 3, 1) := by decide +kernel
theorem dX4_does_237 : decode cX4_does 237 = .ok (.aload_n 0, 1) := by decide +kernel
theorem dX4_does_238 : decode cX4_does 238 = .ok (.getfield 31, 3) := by decide +kernel
theorem dX4_does_241 : decode cX4_does 241 = .ok (.iconst 0, 1) := by decide +kernel
theorem dX4_does_242 : decode cX4_does 242 = .ok (.iaload, 1) := by decide +kernel
theorem dX4_does_243 : decode cX4_does 243 = .ok (.if_icmp .ge 41, 3) := by decide +kernel
theorem dX4_does_246 : decode cX4_does 246 = .ok (.iload 4, 2) := by decide +kernel
theorem dX4_does_248 : decode cX4_does 248 = .ok (.iconst 2, 1) := by decide +kernel
theorem dX4_does_249 : decode cX4_does 249 = .ok (.if_icmp .ge 35, 3) := by decide +kernel
theorem dX4_does_252 : decode cX4_does 252 = .ok (.aload_n 0, 1) := by decide +kernel
theorem dX4_does_253 : decode cX4_does 253 = .ok (.iload_n 3, 1) := by decide +kernel
theorem dX4_does_254 : decode cX4_does 254 = .ok (.invokevirtual 216, 3) := by decide +kernel
theorem dX4_does_257 : decode cX4_does 257 = .ok (.iconst (-1), 1) := by decide +kernel
theorem dX4_does_258 : decode cX4_does 258 = .ok (.if_icmp .eq 7, 3) := by decide +kernel
theorem dX4_does_261 : decode cX4_does 261 = .ok (.iconst 1, 1) := by decide +kernel
theorem dX4_does_262 : decode cX4_does 262 = .ok (.goto 4, 3) := by decide +kernel
theorem dX4_does_265 : decode cX4_does 265 = .ok (.iconst 0, 1) := by decide +kernel
theorem dX4_does_266 : decode cX4_does 266 = .ok (.iload 4, 2) := by decide +kernel
theorem dX4_does_268 : decode cX4_does 268 = .ok (.iconst 1, 1) := by decide +kernel
theorem dX4_does_269 : decode cX4_does 269 = .ok (.if_icmp .ne 7, 3) := by decide +kernel
theorem dX4_does_272 : decode cX4_does 272 = .ok (.iconst 1, 1) := by decide +kernel
theorem dX4_does_273 : decode cX4_does 273 = .ok (.goto 4, 3) := by decide +kernel
theorem dX4_does_276 : decode cX4_does 276 = .ok (.iconst 0, 1) := by decide +kernel
theorem dX4_does_277 : decode cX4_does 277 = .ok (.if_icmp .ne 7, 3) := by decide +kernel
theorem dX4_does_280 : decode cX4_does 280 = .ok (.iconst 1, 1) := by decide +kernel
theorem dX4_does_281 : decode cX4_does 281 = .ok (.goto 4, 3) := by decide +kernel
theorem dX4_does_284 : decode cX4_does 284 = .ok (.iconst 0, 1) := by decide +kernel
theorem dX4_does_285 : decode cX4_does 285 = .ok (.ireturn, 1) := by decide +kernel
theorem dX4_does_286 : decode cX4_does 286 = .ok (.iconst 0, 1) := by decide +kernel
theorem dX4_does_287 : decode cX4_does 287 = .ok (.ireturn, 1) := by decide +kernel
theorem dX4_runScript_0 : decode cX4_runScript 0 = .ok (.iload_n 1, 1) := by decide +kernel
theorem dX4_runScript_1 : decode cX4_runScript 1 = .ok (.i2l, 1) := by decide +kernel
theorem dX4_runScript_2 : decode cX4_runScript 2 = .ok (.lconst 1, 1) := by decide +kernel
theorem dX4_runScript_3 : decode cX4_runScript 3 = .ok (.ldc2_w 214, 3) := by decide +kernel
theorem dX4_runScript_6 : decode cX4_runScript 6 = .ok (.invokestatic 118, 3) := by decide +kernel
theorem dX4_runScript_9 : decode cX4_runScript 9 = .ok (.istore 4, 2) := by decide +kernel
theorem dX4_runScript_11 : decode cX4_runScript 11 = .ok (.aload_n 0, 1) := by decide +kernel
theorem dX4_runScript_12 : decode cX4_runScript 12 = .ok (.iload 4, 2) := by decide +kernel
theorem dX4_runScript_14 : decode cX4_runScript 14 = .ok (.ifCond .eq 32, 3) := by decide +kernel
theorem dX4_runScript_17 : decode cX4_runScript 17 = .ok (.lload_n 2, 1) := by decide +kernel
theorem dX4_runScript_18 : decode cX4_runScript 18 = .ok (.lconst 0, 1) := by decide +kernel
theorem dX4_runScript_19 : decode cX4_runScript 19 = .ok (.iload 4, 2) := by decide +kernel
theorem dX4_runScript_21 : decode cX4_runScript 21 = .ok (.ifCond .eq 9, 3) := by decide +kernel
theorem dX4_runScript_24 : decode cX4_runScript 24 = .ok (.iconst 5, 1) := by decide +kernel
theorem dX4_runScript_25 : decode cX4_runScript 25 = .ok (.iload_n 1, 1) := by decide +kernel
theorem dX4_runScript_26 : decode cX4_runScript 26 = .ok (.imul, 1) := by decide +kernel
theorem dX4_runScript_27 : decode cX4_runScript 27 = .ok (.goto 4, 3) := by decide +kernel
theorem dX4_runScript_30 : decode cX4_runScript 30 = .ok (.iconst 0, 1) := by decide +kernel
theorem dX4_runScript_31 : decode cX4_runScript 31 = .ok (.invokestatic 290, 3) := by decide +kernel
theorem dX4_runScript_34 : decode cX4_runScript 34 = .ok (.lconst 1, 1) := by decide +kernel
theorem dX4_runScript_35 : decode cX4_runScript 35 = .ok (.lsub, 1) := by decide +kernel
theorem dX4_runScript_36 : decode cX4_runScript 36 = .ok (.invokestatic 118, 3) := by decide +kernel
theorem dX4_runScript_39 : decode cX4_runScript 39 = .ok (.ifCond .eq 7, 3) := by decide +kernel
theorem dX4_runScript_42 : decode cX4_runScript 42 = .ok (.iconst 0, 1) := by decide +kernel
theorem dX4_runScript_43 : decode cX4_runScript 43 = .ok (.goto 4, 3) := by decide +kernel
theorem dX4_runScript_46 : decode cX4_runScript 46 = .ok (.iconst 1, 1) := by decide +kernel
theorem dX4_runScript_47 : decode cX4_runScript 47 = .ok (.invokevirtual 134, 3) := by decide +kernel
theorem dX4_runScript_50 : decode cX4_runScript 50 = .ok (.ifCond .eq 5, 3) := by decide +kernel
theorem dX4_runScript_53 : decode cX4_runScript 53 = .ok (.iconst 0, 1) := by decide +kernel
theorem dX4_runScript_54 : decode cX4_runScript 54 = .ok (.ireturn, 1) := by decide +kernel
theorem dX4_runScript_55 : decode cX4_runScript 55 = .ok (.aload_n 0, 1) := by decide +kernel
theorem dX4_runScript_56 : decode cX4_runScript 56 = .ok (.invokevirtual 270, 3) := by decide +kernel
theorem dX4_runScript_59 : decode cX4_runScript 59 = .ok (.iconst 0, 1) := by decide +kernel
theorem dX4_runScript_60 : decode cX4_runScript 60 = .ok (.istore 5, 2) := by decide +kernel
theorem dX4_runScript_62 : decode cX4_runScript 62 = .ok (.iload 5, 2) := by decide +kernel
theorem dX4_runScript_64 : decode cX4_runScript 64 = .ok (.iload_n 1, 1) := by decide +kernel
theorem dX4_runScript_65 : decode cX4_runScript 65 = .ok (.if_icmp .ge 37, 3) := by decide +kernel
theorem dX4_runScript_68 : decode cX4_runScript 68 = .ok (.aload_n 0, 1) := by decide +kernel
theorem dX4_runScript_69 : decode cX4_runScript 69 = .ok (.lload_n 2, 1) := by decide +kernel
theorem dX4_runScript_70 : decode cX4_runScript 70 = .ok (.iconst 5, 1) := by decide +kernel
theorem dX4_runScript_71 : decode cX4_runScript 71 = .ok (.iload_n 1, 1) := by decide +kernel
theorem dX4_runScript_72 : decode cX4_runScript 72 = .ok (.iconst 1, 1) := by decide +kernel
theorem dX4_runScript_73 : decode cX4_runScript 73 = .ok (.isub, 1) := by decide +kernel
theorem dX4_runScript_74 : decode cX4_runScript 74 = .ok (.iload 5, 2) := by decide +kernel
theorem dX4_runScript_76 : decode cX4_runScript 76 = .ok (.isub, 1) := by decide +kernel
theorem dX4_runScript_77 : decode cX4_runScript 77 = .ok (.imul, 1) := by decide +kernel
theorem dX4_runScript_78 : decode cX4_runScript 78 = .ok (.invokestatic 290, 3) := by decide +kernel
theorem dX4_runScript_81 : decode cX4_runScript 81 = .ok (.ldiv, 1) := by decide +kernel
theorem dX4_runScript_82 : decode cX4_runScript 82 = .ok (.ldc2_w 294, 3) := by decide +kernel
theorem dX4_runScript_85 : decode cX4_runScript 85 = .ok (.lrem, 1) := by decide +kernel
theorem dX4_runScript_86 : decode cX4_runScript 86 = .ok (.l2i, 1) := by decide +kernel
theorem dX4_runScript_87 : decode cX4_runScript 87 = .ok (.invokevirtual 296, 3) := by decide +kernel
theorem dX4_runScript_90 : decode cX4_runScript 90 = .ok (.ifCond .ne 6, 3) := by decide +kernel
theorem dX4_runScript_93 : decode cX4_runScript 93 = .ok (.iload 5, 2) := by decide +kernel
theorem dX4_runScript_95 : decode cX4_runScript 95 = .ok (.ireturn, 1) := by decide +kernel
theorem dX4_runScript_96 : decode cX4_runScript 96 = .ok (.iinc 5 1, 3) := by decide +kernel
theorem dX4_runScript_99 : decode cX4_runScript 99 = .ok (.goto (-37), 3) := by decide +kernel
theorem dX4_runScript_102 : decode cX4_runScript 102 = .ok (.iconst (-1), 1) := by decide +kernel
theorem dX4_runScript_103 : decode cX4_runScript 103 = .ok (.ireturn, 1) := by decide +kernel
theorem dX4_pauseOf_0 : decode cX4_pauseOf 0 = .ok (.iload_n 1, 1) := by decide +kernel
theorem dX4_pauseOf_1 : decode cX4_pauseOf 1 = .ok (.bipush 8, 2) := by decide +kernel
theorem dX4_pauseOf_3 : decode cX4_pauseOf 3 = .ok (.irem, 1) := by decide +kernel
theorem dX4_pauseOf_4 : decode cX4_pauseOf 4 = .ok (.ifCond .ne 14, 3) := by decide +kernel
theorem dX4_pauseOf_7 : decode cX4_pauseOf 7 = .ok (.iconst 1, 1) := by decide +kernel
theorem dX4_pauseOf_8 : decode cX4_pauseOf 8 = .ok (.iload_n 1, 1) := by decide +kernel
theorem dX4_pauseOf_9 : decode cX4_pauseOf 9 = .ok (.sipush 2048, 3) := by decide +kernel
theorem dX4_pauseOf_12 : decode cX4_pauseOf 12 = .ok (.idiv, 1) := by decide +kernel
theorem dX4_pauseOf_13 : decode cX4_pauseOf 13 = .ok (.bipush 60, 2) := by decide +kernel
theorem dX4_pauseOf_15 : decode cX4_pauseOf 15 = .ok (.irem, 1) := by decide +kernel
theorem dX4_pauseOf_16 : decode cX4_pauseOf 16 = .ok (.iadd, 1) := by decide +kernel
theorem dX4_pauseOf_17 : decode cX4_pauseOf 17 = .ok (.ireturn, 1) := by decide +kernel
theorem dX4_pauseOf_18 : decode cX4_pauseOf 18 = .ok (.iload_n 1, 1) := by decide +kernel
theorem dX4_pauseOf_19 : decode cX4_pauseOf 19 = .ok (.iconst 2, 1) := by decide +kernel
theorem dX4_pauseOf_20 : decode cX4_pauseOf 20 = .ok (.irem, 1) := by decide +kernel
theorem dX4_pauseOf_21 : decode cX4_pauseOf 21 = .ok (.iconst 1, 1) := by decide +kernel
theorem dX4_pauseOf_22 : decode cX4_pauseOf 22 = .ok (.if_icmp .ne 12, 3) := by decide +kernel
theorem dX4_pauseOf_25 : decode cX4_pauseOf 25 = .ok (.aload_n 0, 1) := by decide +kernel
theorem dX4_pauseOf_26 : decode cX4_pauseOf 26 = .ok (.getfield 31, 3) := by decide +kernel
theorem dX4_pauseOf_29 : decode cX4_pauseOf 29 = .ok (.iconst 1, 1) := by decide +kernel
theorem dX4_pauseOf_30 : decode cX4_pauseOf 30 = .ok (.iaload, 1) := by decide +kernel
theorem dX4_pauseOf_31 : decode cX4_pauseOf 31 = .ok (.goto 17, 3) := by decide +kernel
theorem dX4_pauseOf_34 : decode cX4_pauseOf 34 = .ok (.aload_n 0, 1) := by decide +kernel
theorem dX4_pauseOf_35 : decode cX4_pauseOf 35 = .ok (.getfield 31, 3) := by decide +kernel
theorem dX4_pauseOf_38 : decode cX4_pauseOf 38 = .ok (.iconst 2, 1) := by decide +kernel
theorem dX4_pauseOf_39 : decode cX4_pauseOf 39 = .ok (.iaload, 1) := by decide +kernel
theorem dX4_pauseOf_40 : decode cX4_pauseOf 40 = .ok (.iload_n 1, 1) := by decide +kernel
theorem dX4_pauseOf_41 : decode cX4_pauseOf 41 = .ok (.sipush 2048, 3) := by decide +kernel
theorem dX4_pauseOf_44 : decode cX4_pauseOf 44 = .ok (.idiv, 1) := by decide +kernel
theorem dX4_pauseOf_45 : decode cX4_pauseOf 45 = .ok (.iconst 4, 1) := by decide +kernel
theorem dX4_pauseOf_46 : decode cX4_pauseOf 46 = .ok (.irem, 1) := by decide +kernel
theorem dX4_pauseOf_47 : decode cX4_pauseOf 47 = .ok (.iadd, 1) := by decide +kernel
theorem dX4_pauseOf_48 : decode cX4_pauseOf 48 = .ok (.istore_n 2, 1) := by decide +kernel
theorem dX4_pauseOf_49 : decode cX4_pauseOf 49 = .ok (.iload_n 2, 1) := by decide +kernel
theorem dX4_pauseOf_50 : decode cX4_pauseOf 50 = .ok (.bipush 60, 2) := by decide +kernel
theorem dX4_pauseOf_52 : decode cX4_pauseOf 52 = .ok (.if_icmp .le 8, 3) := by decide +kernel
theorem dX4_pauseOf_55 : decode cX4_pauseOf 55 = .ok (.bipush 60, 2) := by decide +kernel
theorem dX4_pauseOf_57 : decode cX4_pauseOf 57 = .ok (.goto 4, 3) := by decide +kernel
theorem dX4_pauseOf_60 : decode cX4_pauseOf 60 = .ok (.iload_n 2, 1) := by decide +kernel
theorem dX4_pauseOf_61 : decode cX4_pauseOf 61 = .ok (.ireturn, 1) := by decide +kernel
theorem dX4_simulate_0 : decode cX4_simulate 0 = .ok (.aload_n 0, 1) := by decide +kernel
theorem dX4_simulate_1 : decode cX4_simulate 1 = .ok (.iload_n 3, 1) := by decide +kernel
theorem dX4_simulate_2 : decode cX4_simulate 2 = .ok (.i2l, 1) := by decide +kernel
theorem dX4_simulate_3 : decode cX4_simulate 3 = .ok (.lconst 1, 1) := by decide +kernel
theorem dX4_simulate_4 : decode cX4_simulate 4 = .ok (.ldc2_w 236, 3) := by decide +kernel
theorem dX4_simulate_7 : decode cX4_simulate 7 = .ok (.invokestatic 118, 3) := by decide +kernel
theorem dX4_simulate_10 : decode cX4_simulate 10 = .ok (.ifCond .eq 7, 3) := by decide +kernel
theorem dX4_simulate_13 : decode cX4_simulate 13 = .ok (.iconst 0, 1) := by decide +kernel
theorem dX4_simulate_14 : decode cX4_simulate 14 = .ok (.goto 4, 3) := by decide +kernel
theorem dX4_simulate_17 : decode cX4_simulate 17 = .ok (.iconst 1, 1) := by decide +kernel
theorem dX4_simulate_18 : decode cX4_simulate 18 = .ok (.invokevirtual 134, 3) := by decide +kernel
theorem dX4_simulate_21 : decode cX4_simulate 21 = .ok (.ifCond .eq 5, 3) := by decide +kernel
theorem dX4_simulate_24 : decode cX4_simulate 24 = .ok (.iconst 0, 1) := by decide +kernel
theorem dX4_simulate_25 : decode cX4_simulate 25 = .ok (.ireturn, 1) := by decide +kernel
theorem dX4_simulate_26 : decode cX4_simulate 26 = .ok (.aload_n 0, 1) := by decide +kernel
theorem dX4_simulate_27 : decode cX4_simulate 27 = .ok (.invokevirtual 270, 3) := by decide +kernel
theorem dX4_simulate_30 : decode cX4_simulate 30 = .ok (.lload_n 1, 1) := by decide +kernel
theorem dX4_simulate_31 : decode cX4_simulate 31 = .ok (.lstore 4, 2) := by decide +kernel
theorem dX4_simulate_33 : decode cX4_simulate 33 = .ok (.bipush 40, 2) := by decide +kernel
theorem dX4_simulate_35 : decode cX4_simulate 35 = .ok (.istore 6, 2) := by decide +kernel
theorem dX4_simulate_37 : decode cX4_simulate 37 = .ok (.iconst 0, 1) := by decide +kernel
theorem dX4_simulate_38 : decode cX4_simulate 38 = .ok (.istore 7, 2) := by decide +kernel
theorem dX4_simulate_40 : decode cX4_simulate 40 = .ok (.iload 7, 2) := by decide +kernel
theorem dX4_simulate_42 : decode cX4_simulate 42 = .ok (.iload_n 3, 1) := by decide +kernel
theorem dX4_simulate_43 : decode cX4_simulate 43 = .ok (.if_icmp .ge 92, 3) := by decide +kernel
theorem dX4_simulate_46 : decode cX4_simulate 46 = .ok (.lload 4, 2) := by decide +kernel
theorem dX4_simulate_48 : decode cX4_simulate 48 = .ok (.ldc2_w 299, 3) := by decide +kernel
theorem dX4_simulate_51 : decode cX4_simulate 51 = .ok (.lmul, 1) := by decide +kernel
theorem dX4_simulate_52 : decode cX4_simulate 52 = .ok (.ldc2_w 301, 3) := by decide +kernel
theorem dX4_simulate_55 : decode cX4_simulate 55 = .ok (.ladd, 1) := by decide +kernel
theorem dX4_simulate_56 : decode cX4_simulate 56 = .ok (.lstore 4, 2) := by decide +kernel
theorem dX4_simulate_58 : decode cX4_simulate 58 = .ok (.lload 4, 2) := by decide +kernel
theorem dX4_simulate_60 : decode cX4_simulate 60 = .ok (.bipush 33, 2) := by decide +kernel
theorem dX4_simulate_62 : decode cX4_simulate 62 = .ok (.lushr, 1) := by decide +kernel
theorem dX4_simulate_63 : decode cX4_simulate 63 = .ok (.l2i, 1) := by decide +kernel
theorem dX4_simulate_64 : decode cX4_simulate 64 = .ok (.istore 8, 2) := by decide +kernel
theorem dX4_simulate_66 : decode cX4_simulate 66 = .ok (.iload 8, 2) := by decide +kernel
theorem dX4_simulate_68 : decode cX4_simulate 68 = .ok (.bipush 8, 2) := by decide +kernel
theorem dX4_simulate_70 : decode cX4_simulate 70 = .ok (.idiv, 1) := by decide +kernel
theorem dX4_simulate_71 : decode cX4_simulate 71 = .ok (.iconst 2, 1) := by decide +kernel
theorem dX4_simulate_72 : decode cX4_simulate 72 = .ok (.irem, 1) := by decide +kernel
theorem dX4_simulate_73 : decode cX4_simulate 73 = .ok (.ifCond .ne 16, 3) := by decide +kernel
theorem dX4_simulate_76 : decode cX4_simulate 76 = .ok (.iconst 1, 1) := by decide +kernel
theorem dX4_simulate_77 : decode cX4_simulate 77 = .ok (.iload 8, 2) := by decide +kernel
theorem dX4_simulate_79 : decode cX4_simulate 79 = .ok (.bipush 16, 2) := by decide +kernel
theorem dX4_simulate_81 : decode cX4_simulate 81 = .ok (.idiv, 1) := by decide +kernel
theorem dX4_simulate_82 : decode cX4_simulate 82 = .ok (.bipush 99, 2) := by decide +kernel
theorem dX4_simulate_84 : decode cX4_simulate 84 = .ok (.irem, 1) := by decide +kernel
theorem dX4_simulate_85 : decode cX4_simulate 85 = .ok (.iadd, 1) := by decide +kernel
theorem dX4_simulate_86 : decode cX4_simulate 86 = .ok (.goto 5, 3) := by decide +kernel
theorem dX4_simulate_89 : decode cX4_simulate 89 = .ok (.iload 6, 2) := by decide +kernel
theorem dX4_simulate_91 : decode cX4_simulate 91 = .ok (.istore 6, 2) := by decide +kernel
theorem dX4_simulate_93 : decode cX4_simulate 93 = .ok (.aload_n 0, 1) := by decide +kernel
theorem dX4_simulate_94 : decode cX4_simulate 94 = .ok (.getfield 31, 3) := by decide +kernel
theorem dX4_simulate_97 : decode cX4_simulate 97 = .ok (.iconst 0, 1) := by decide +kernel
theorem dX4_simulate_98 : decode cX4_simulate 98 = .ok (.iaload, 1) := by decide +kernel
theorem dX4_simulate_99 : decode cX4_simulate 99 = .ok (.bipush 30, 2) := by decide +kernel
theorem dX4_simulate_101 : decode cX4_simulate 101 = .ok (.if_icmp .ne 12, 3) := by decide +kernel
theorem dX4_simulate_104 : decode cX4_simulate 104 = .ok (.aload_n 0, 1) := by decide +kernel
theorem dX4_simulate_105 : decode cX4_simulate 105 = .ok (.aload_n 0, 1) := by decide +kernel
theorem dX4_simulate_106 : decode cX4_simulate 106 = .ok (.getfield 31, 3) := by decide +kernel
theorem dX4_simulate_109 : decode cX4_simulate 109 = .ok (.invokevirtual 267, 3) := by decide +kernel
theorem dX4_simulate_112 : decode cX4_simulate 112 = .ok (.pop, 1) := by decide +kernel
theorem dX4_simulate_113 : decode cX4_simulate 113 = .ok (.aload_n 0, 1) := by decide +kernel
theorem dX4_simulate_114 : decode cX4_simulate 114 = .ok (.getfield 31, 3) := by decide +kernel
theorem dX4_simulate_117 : decode cX4_simulate 117 = .ok (.aload_n 0, 1) := by decide +kernel
theorem dX4_simulate_118 : decode cX4_simulate 118 = .ok (.iload 8, 2) := by decide +kernel
theorem dX4_simulate_120 : decode cX4_simulate 120 = .ok (.invokevirtual 303, 3) := by decide +kernel
theorem dX4_simulate_123 : decode cX4_simulate 123 = .ok (.iload 6, 2) := by decide +kernel
theorem dX4_simulate_125 : decode cX4_simulate 125 = .ok (.invokestatic 249, 3) := by decide +kernel
theorem dX4_simulate_128 : decode cX4_simulate 128 = .ok (.pop, 1) := by decide +kernel
theorem dX4_simulate_129 : decode cX4_simulate 129 = .ok (.iinc 7 1, 3) := by decide +kernel
theorem dX4_simulate_132 : decode cX4_simulate 132 = .ok (.goto (-92), 3) := by decide +kernel
theorem dX4_simulate_135 : decode cX4_simulate 135 = .ok (.aload_n 0, 1) := by decide +kernel
theorem dX4_simulate_136 : decode cX4_simulate 136 = .ok (.aload_n 0, 1) := by decide +kernel
theorem dX4_simulate_137 : decode cX4_simulate 137 = .ok (.getfield 31, 3) := by decide +kernel
theorem dX4_simulate_140 : decode cX4_simulate 140 = .ok (.invokevirtual 125, 3) := by decide +kernel
theorem dX4_simulate_143 : decode cX4_simulate 143 = .ok (.aload_n 0, 1) := by decide +kernel
theorem dX4_simulate_144 : decode cX4_simulate 144 = .ok (.aload_n 0, 1) := by decide +kernel
theorem dX4_simulate_145 : decode cX4_simulate 145 = .ok (.getfield 31, 3) := by decide +kernel
theorem dX4_simulate_148 : decode cX4_simulate 148 = .ok (.invokevirtual 203, 3) := by decide +kernel
theorem dX4_simulate_151 : decode cX4_simulate 151 = .ok (.istore 7, 2) := by decide +kernel
theorem dX4_simulate_153 : decode cX4_simulate 153 = .ok (.sipush 1000, 3) := by decide +kernel
theorem dX4_simulate_156 : decode cX4_simulate 156 = .ok (.aload_n 0, 1) := by decide +kernel
theorem dX4_simulate_157 : decode cX4_simulate 157 = .ok (.getfield 99, 3) := by decide +kernel
theorem dX4_simulate_160 : decode cX4_simulate 160 = .ok (.imul, 1) := by decide +kernel
theorem dX4_simulate_161 : decode cX4_simulate 161 = .ok (.iload 7, 2) := by decide +kernel
theorem dX4_simulate_163 : decode cX4_simulate 163 = .ok (.sipush 999, 3) := by decide +kernel
theorem dX4_simulate_166 : decode cX4_simulate 166 = .ok (.if_icmp .le 9, 3) := by decide +kernel
theorem dX4_simulate_169 : decode cX4_simulate 169 = .ok (.sipush 999, 3) := by decide +kernel
theorem dX4_simulate_172 : decode cX4_simulate 172 = .ok (.goto 5, 3) := by decide +kernel
theorem dX4_simulate_175 : decode cX4_simulate 175 = .ok (.iload 7, 2) := by decide +kernel
theorem dX4_simulate_177 : decode cX4_simulate 177 = .ok (.iadd, 1) := by decide +kernel
theorem dX4_simulate_178 : decode cX4_simulate 178 = .ok (.ireturn, 1) := by decide +kernel
theorem dX4_save_0 : decode cX4_save 0 = .ok (.aload_n 0, 1) := by decide +kernel
theorem dX4_save_1 : decode cX4_save 1 = .ok (.iload_n 1, 1) := by decide +kernel
theorem dX4_save_2 : decode cX4_save 2 = .ok (.i2l, 1) := by decide +kernel
theorem dX4_save_3 : decode cX4_save 3 = .ok (.lconst 0, 1) := by decide +kernel
theorem dX4_save_4 : decode cX4_save 4 = .ok (.lconst 1, 1) := by decide +kernel
theorem dX4_save_5 : decode cX4_save 5 = .ok (.invokestatic 118, 3) := by decide +kernel
theorem dX4_save_8 : decode cX4_save 8 = .ok (.ifCond .eq 7, 3) := by decide +kernel
theorem dX4_save_11 : decode cX4_save 11 = .ok (.iconst 0, 1) := by decide +kernel
theorem dX4_save_12 : decode cX4_save 12 = .ok (.goto 4, 3) := by decide +kernel
theorem dX4_save_15 : decode cX4_save 15 = .ok (.iconst 1, 1) := by decide +kernel
theorem dX4_save_16 : decode cX4_save 16 = .ok (.invokevirtual 134, 3) := by decide +kernel
theorem dX4_save_19 : decode cX4_save 19 = .ok (.ifCond .eq 5, 3) := by decide +kernel
theorem dX4_save_22 : decode cX4_save 22 = .ok (.iconst 0, 1) := by decide +kernel
theorem dX4_save_23 : decode cX4_save 23 = .ok (.ireturn, 1) := by decide +kernel
theorem dX4_save_24 : decode cX4_save 24 = .ok (.aload_n 0, 1) := by decide +kernel
theorem dX4_save_25 : decode cX4_save 25 = .ok (.getfield 28, 3) := by decide +kernel
theorem dX4_save_28 : decode cX4_save 28 = .ok (.iconst 0, 1) := by decide +kernel
theorem dX4_save_29 : decode cX4_save 29 = .ok (.aload_n 0, 1) := by decide +kernel
theorem dX4_save_30 : decode cX4_save 30 = .ok (.getfield 37, 3) := by decide +kernel
theorem dX4_save_33 : decode cX4_save 33 = .ok (.bipush 95, 2) := by decide +kernel
theorem dX4_save_35 : decode cX4_save 35 = .ok (.iload_n 1, 1) := by decide +kernel
theorem dX4_save_36 : decode cX4_save 36 = .ok (.imul, 1) := by decide +kernel
theorem dX4_save_37 : decode cX4_save 37 = .ok (.bipush 95, 2) := by decide +kernel
theorem dX4_save_39 : decode cX4_save 39 = .ok (.invokestatic 68, 3) := by decide +kernel
theorem dX4_save_42 : decode cX4_save 42 = .ok (.aload_n 0, 1) := by decide +kernel
theorem dX4_save_43 : decode cX4_save 43 = .ok (.getfield 40, 3) := by decide +kernel
theorem dX4_save_46 : decode cX4_save 46 = .ok (.iload_n 1, 1) := by decide +kernel
theorem dX4_save_47 : decode cX4_save 47 = .ok (.iconst 1, 1) := by decide +kernel
theorem dX4_save_48 : decode cX4_save 48 = .ok (.bastore, 1) := by decide +kernel
theorem dX4_save_49 : decode cX4_save 49 = .ok (.aload_n 0, 1) := by decide +kernel
theorem dX4_save_50 : decode cX4_save 50 = .ok (.getfield 28, 3) := by decide +kernel
theorem dX4_save_53 : decode cX4_save 53 = .ok (.iconst 0, 1) := by decide +kernel
theorem dX4_save_54 : decode cX4_save 54 = .ok (.iaload, 1) := by decide +kernel
theorem dX4_save_55 : decode cX4_save 55 = .ok (.ireturn, 1) := by decide +kernel
theorem dX4_restore_0 : decode cX4_restore 0 = .ok (.aload_n 0, 1) := by decide +kernel
theorem dX4_restore_1 : decode cX4_restore 1 = .ok (.iload_n 1, 1) := by decide +kernel
theorem dX4_restore_2 : decode cX4_restore 2 = .ok (.i2l, 1) := by decide +kernel
theorem dX4_restore_3 : decode cX4_restore 3 = .ok (.lconst 0, 1) := by decide +kernel
theorem dX4_restore_4 : decode cX4_restore 4 = .ok (.lconst 1, 1) := by decide +kernel
theorem dX4_restore_5 : decode cX4_restore 5 = .ok (.invokestatic 118, 3) := by decide +kernel
theorem dX4_restore_8 : decode cX4_restore 8 = .ok (.ifCond .ne 7, 3) := by decide +kernel
theorem dX4_restore_11 : decode cX4_restore 11 = .ok (.iconst 1, 1) := by decide +kernel
theorem dX4_restore_12 : decode cX4_restore 12 = .ok (.goto 17, 3) := by decide +kernel
theorem dX4_restore_15 : decode cX4_restore 15 = .ok (.aload_n 0, 1) := by decide +kernel
theorem dX4_restore_16 : decode cX4_restore 16 = .ok (.getfield 40, 3) := by decide +kernel
theorem dX4_restore_19 : decode cX4_restore 19 = .ok (.iload_n 1, 1) := by decide +kernel
theorem dX4_restore_20 : decode cX4_restore 20 = .ok (.baload, 1) := by decide +kernel
theorem dX4_restore_21 : decode cX4_restore 21 = .ok (.ifCond .eq 7, 3) := by decide +kernel
theorem dX4_restore_24 : decode cX4_restore 24 = .ok (.iconst 0, 1) := by decide +kernel
theorem dX4_restore_25 : decode cX4_restore 25 = .ok (.goto 4, 3) := by decide +kernel
theorem dX4_restore_28 : decode cX4_restore 28 = .ok (.iconst 2, 1) := by decide +kernel
theorem dX4_restore_29 : decode cX4_restore 29 = .ok (.invokevirtual 134, 3) := by decide +kernel
theorem dX4_restore_32 : decode cX4_restore 32 = .ok (.ifCond .eq 5, 3) := by decide +kernel
theorem dX4_restore_35 : decode cX4_restore 35 = .ok (.iconst 0, 1) := by decide +kernel
theorem dX4_restore_36 : decode cX4_restore 36 = .ok (.ireturn, 1) := by decide +kernel
theorem dX4_restore_37 : decode cX4_restore 37 = .ok (.aload_n 0, 1) := by decide +kernel
theorem dX4_restore_38 : decode cX4_restore 38 = .ok (.getfield 37, 3) := by decide +kernel
theorem dX4_restore_41 : decode cX4_restore 41 = .ok (.bipush 95, 2) := by decide +kernel
theorem dX4_restore_43 : decode cX4_restore 43 = .ok (.iload_n 1, 1) := by decide +kernel
theorem dX4_restore_44 : decode cX4_restore 44 = .ok (.imul, 1) := by decide +kernel
theorem dX4_restore_45 : decode cX4_restore 45 = .ok (.aload_n 0, 1) := by decide +kernel
theorem dX4_restore_46 : decode cX4_restore 46 = .ok (.getfield 28, 3) := by decide +kernel
theorem dX4_restore_49 : decode cX4_restore 49 = .ok (.iconst 0, 1) := by decide +kernel
theorem dX4_restore_50 : decode cX4_restore 50 = .ok (.bipush 95, 2) := by decide +kernel
theorem dX4_restore_52 : decode cX4_restore 52 = .ok (.invokestatic 68, 3) := by decide +kernel
theorem dX4_restore_55 : decode cX4_restore 55 = .ok (.aload_n 0, 1) := by decide +kernel
theorem dX4_restore_56 : decode cX4_restore 56 = .ok (.iconst 0, 1) := by decide +kernel
theorem dX4_restore_57 : decode cX4_restore 57 = .ok (.putfield 65, 3) := by decide +kernel
theorem dX4_restore_60 : decode cX4_restore 60 = .ok (.aload_n 0, 1) := by decide +kernel
theorem dX4_restore_61 : decode cX4_restore 61 = .ok (.getfield 28, 3) := by decide +kernel
theorem dX4_restore_64 : decode cX4_restore 64 = .ok (.iconst 0, 1) := by decide +kernel
theorem dX4_restore_65 : decode cX4_restore 65 = .ok (.iaload, 1) := by decide +kernel
theorem dX4_restore_66 : decode cX4_restore 66 = .ok (.ireturn, 1) := by decide +kernel
theorem dJ9_floorDiv_7cf53_0 : decode cJ9_floorDiv_7cf53 0 = .ok (.iload_n 0, 1) := by decide +kernel
theorem dJ9_floorDiv_7cf53_1 : decode cJ9_floorDiv_7cf53 1 = .ok (.iload_n 1, 1) := by decide +kernel
theorem dJ9_floorDiv_7cf53_2 : decode cJ9_floorDiv_7cf53 2 = .ok (.idiv, 1) := by decide +kernel
theorem dJ9_floorDiv_7cf53_3 : decode cJ9_floorDiv_7cf53 3 = .ok (.istore_n 2, 1) := by decide +kernel
theorem dJ9_floorDiv_7cf53_4 : decode cJ9_floorDiv_7cf53 4 = .ok (.iload_n 0, 1) := by decide +kernel
theorem dJ9_floorDiv_7cf53_5 : decode cJ9_floorDiv_7cf53 5 = .ok (.iload_n 1, 1) := by decide +kernel
theorem dJ9_floorDiv_7cf53_6 : decode cJ9_floorDiv_7cf53 6 = .ok (.ixor, 1) := by decide +kernel
theorem dJ9_floorDiv_7cf53_7 : decode cJ9_floorDiv_7cf53 7 = .ok (.ifCond .ge 14, 3) := by decide +kernel
theorem dJ9_floorDiv_7cf53_10 : decode cJ9_floorDiv_7cf53 10 = .ok (.iload_n 2, 1) := by decide +kernel
theorem dJ9_floorDiv_7cf53_11 : decode cJ9_floorDiv_7cf53 11 = .ok (.iload_n 1, 1) := by decide +kernel
theorem dJ9_floorDiv_7cf53_12 : decode cJ9_floorDiv_7cf53 12 = .ok (.imul, 1) := by decide +kernel
theorem dJ9_floorDiv_7cf53_13 : decode cJ9_floorDiv_7cf53 13 = .ok (.iload_n 0, 1) := by decide +kernel
theorem dJ9_floorDiv_7cf53_14 : decode cJ9_floorDiv_7cf53 14 = .ok (.if_icmp .eq 7, 3) := by decide +kernel
theorem dJ9_floorDiv_7cf53_17 : decode cJ9_floorDiv_7cf53 17 = .ok (.iload_n 2, 1) := by decide +kernel
theorem dJ9_floorDiv_7cf53_18 : decode cJ9_floorDiv_7cf53 18 = .ok (.iconst 1, 1) := by decide +kernel
theorem dJ9_floorDiv_7cf53_19 : decode cJ9_floorDiv_7cf53 19 = .ok (.isub, 1) := by decide +kernel
theorem dJ9_floorDiv_7cf53_20 : decode cJ9_floorDiv_7cf53 20 = .ok (.ireturn, 1) := by decide +kernel
theorem dJ9_floorDiv_7cf53_21 : decode cJ9_floorDiv_7cf53 21 = .ok (.iload_n 2, 1) := by decide +kernel
theorem dJ9_floorDiv_7cf53_22 : decode cJ9_floorDiv_7cf53 22 = .ok (.ireturn, 1) := by decide +kernel
theorem dJ9_abs_0f7a4_0 : decode cJ9_abs_0f7a4 0 = .ok (.iload_n 0, 1) := by decide +kernel
theorem dJ9_abs_0f7a4_1 : decode cJ9_abs_0f7a4 1 = .ok (.ifCond .ge 8, 3) := by decide +kernel
theorem dJ9_abs_0f7a4_4 : decode cJ9_abs_0f7a4 4 = .ok (.iload_n 0, 1) := by decide +kernel
theorem dJ9_abs_0f7a4_5 : decode cJ9_abs_0f7a4 5 = .ok (.ineg, 1) := by decide +kernel
theorem dJ9_abs_0f7a4_6 : decode cJ9_abs_0f7a4 6 = .ok (.goto 4, 3) := by decide +kernel
theorem dJ9_abs_0f7a4_9 : decode cJ9_abs_0f7a4 9 = .ok (.iload_n 0, 1) := by decide +kernel
theorem dJ9_abs_0f7a4_10 : decode cJ9_abs_0f7a4 10 = .ok (.ireturn, 1) := by decide +kernel
theorem dJ9_max_7cf53_0 : decode cJ9_max_7cf53 0 = .ok (.iload_n 0, 1) := by decide +kernel
theorem dJ9_max_7cf53_1 : decode cJ9_max_7cf53 1 = .ok (.iload_n 1, 1) := by decide +kernel
theorem dJ9_max_7cf53_2 : decode cJ9_max_7cf53 2 = .ok (.if_icmp .lt 7, 3) := by decide +kernel
theorem dJ9_max_7cf53_5 : decode cJ9_max_7cf53 5 = .ok (.iload_n 0, 1) := by decide +kernel
theorem dJ9_max_7cf53_6 : decode cJ9_max_7cf53 6 = .ok (.goto 4, 3) := by decide +kernel
theorem dJ9_max_7cf53_9 : decode cJ9_max_7cf53 9 = .ok (.iload_n 1, 1) := by decide +kernel
theorem dJ9_max_7cf53_10 : decode cJ9_max_7cf53 10 = .ok (.ireturn, 1) := by decide +kernel
theorem dJ9_min_7cf53_0 : decode cJ9_min_7cf53 0 = .ok (.iload_n 0, 1) := by decide +kernel
theorem dJ9_min_7cf53_1 : decode cJ9_min_7cf53 1 = .ok (.iload_n 1, 1) := by decide +kernel
theorem dJ9_min_7cf53_2 : decode cJ9_min_7cf53 2 = .ok (.if_icmp .gt 7, 3) := by decide +kernel
theorem dJ9_min_7cf53_5 : decode cJ9_min_7cf53 5 = .ok (.iload_n 0, 1) := by decide +kernel
theorem dJ9_min_7cf53_6 : decode cJ9_min_7cf53 6 = .ok (.goto 4, 3) := by decide +kernel
theorem dJ9_min_7cf53_9 : decode cJ9_min_7cf53 9 = .ok (.iload_n 1, 1) := by decide +kernel
theorem dJ9_min_7cf53_10 : decode cJ9_min_7cf53 10 = .ok (.ireturn, 1) := by decide +kernel
theorem dL_append_0 : decode cL_append 0 = .ok (.aload_n 2, 1) := by decide +kernel
theorem dL_append_1 : decode cL_append 1 = .ok (.iconst 0, 1) := by decide +kernel
theorem dL_append_2 : decode cL_append 2 = .ok (.aload_n 0, 1) := by decide +kernel
theorem dL_append_3 : decode cL_append 3 = .ok (.iload_n 1, 1) := by decide +kernel
theorem dL_append_4 : decode cL_append 4 = .ok (.invokevirtual 7, 3) := by decide +kernel
theorem dL_append_7 : decode cL_append 7 = .ok (.i2l, 1) := by decide +kernel
theorem dL_append_8 : decode cL_append 8 = .ok (.lastore, 1) := by decide +kernel
theorem dL_append_9 : decode cL_append 9 = .ok (.goto 9, 3) := by decide +kernel
theorem dL_append_12 : decode cL_append 12 = .ok (.astore_n 3, 1) := by decide +kernel
theorem dL_append_13 : decode cL_append 13 = .ok (.iconst 1, 1) := by decide +kernel
theorem dL_append_14 : decode cL_append 14 = .ok (.ireturn, 1) := by decide +kernel
theorem dL_append_15 : decode cL_append 15 = .ok (.astore_n 3, 1) := by decide +kernel
theorem dL_append_16 : decode cL_append 16 = .ok (.iconst 2, 1) := by decide +kernel
theorem dL_append_17 : decode cL_append 17 = .ok (.ireturn, 1) := by decide +kernel
theorem dL_append_18 : decode cL_append 18 = .ok (.iconst 0, 1) := by decide +kernel
theorem dL_append_19 : decode cL_append 19 = .ok (.ireturn, 1) := by decide +kernel
theorem dL_about_0 : decode cL_about 0 = .ok (.aload_n 2, 1) := by decide +kernel
theorem dL_about_1 : decode cL_about 1 = .ok (.iconst 0, 1) := by decide +kernel
theorem dL_about_2 : decode cL_about 2 = .ok (.aload_n 0, 1) := by decide +kernel
theorem dL_about_3 : decode cL_about 3 = .ok (.iload_n 1, 1) := by decide +kernel
theorem dL_about_4 : decode cL_about 4 = .ok (.invokevirtual 17, 3) := by decide +kernel
theorem dL_about_7 : decode cL_about 7 = .ok (.i2l, 1) := by decide +kernel
theorem dL_about_8 : decode cL_about 8 = .ok (.lastore, 1) := by decide +kernel
theorem dL_about_9 : decode cL_about 9 = .ok (.goto 6, 3) := by decide +kernel
theorem dL_about_12 : decode cL_about 12 = .ok (.astore_n 3, 1) := by decide +kernel
theorem dL_about_13 : decode cL_about 13 = .ok (.iconst 1, 1) := by decide +kernel
theorem dL_about_14 : decode cL_about 14 = .ok (.ireturn, 1) := by decide +kernel
theorem dL_about_15 : decode cL_about 15 = .ok (.iconst 0, 1) := by decide +kernel
theorem dL_about_16 : decode cL_about 16 = .ok (.ireturn, 1) := by decide +kernel
theorem dL_axle_0 : decode cL_axle 0 = .ok (.aload_n 3, 1) := by decide +kernel
theorem dL_axle_1 : decode cL_axle 1 = .ok (.iconst 0, 1) := by decide +kernel
theorem dL_axle_2 : decode cL_axle 2 = .ok (.aload_n 0, 1) := by decide +kernel
theorem dL_axle_3 : decode cL_axle 3 = .ok (.iload_n 1, 1) := by decide +kernel
theorem dL_axle_4 : decode cL_axle 4 = .ok (.iload_n 2, 1) := by decide +kernel
theorem dL_axle_5 : decode cL_axle 5 = .ok (.invokevirtual 20, 3) := by decide +kernel
theorem dL_axle_8 : decode cL_axle 8 = .ok (.i2l, 1) := by decide +kernel
theorem dL_axle_9 : decode cL_axle 9 = .ok (.lastore, 1) := by decide +kernel
theorem dL_axle_10 : decode cL_axle 10 = .ok (.goto 11, 3) := by decide +kernel
theorem dL_axle_13 : decode cL_axle 13 = .ok (.astore 4, 2) := by decide +kernel
theorem dL_axle_15 : decode cL_axle 15 = .ok (.iconst 1, 1) := by decide +kernel
theorem dL_axle_16 : decode cL_axle 16 = .ok (.ireturn, 1) := by decide +kernel
theorem dL_axle_17 : decode cL_axle 17 = .ok (.astore 4, 2) := by decide +kernel
theorem dL_axle_19 : decode cL_axle 19 = .ok (.iconst 2, 1) := by decide +kernel
theorem dL_axle_20 : decode cL_axle 20 = .ok (.ireturn, 1) := by decide +kernel
theorem dL_axle_21 : decode cL_axle 21 = .ok (.iconst 0, 1) := by decide +kernel
theorem dL_axle_22 : decode cL_axle 22 = .ok (.ireturn, 1) := by decide +kernel
theorem dL_car_0 : decode cL_car 0 = .ok (.aload_n 3, 1) := by decide +kernel
theorem dL_car_1 : decode cL_car 1 = .ok (.iconst 0, 1) := by decide +kernel
theorem dL_car_2 : decode cL_car 2 = .ok (.aload_n 0, 1) := by decide +kernel
theorem dL_car_3 : decode cL_car 3 = .ok (.iload_n 1, 1) := by decide +kernel
theorem dL_car_4 : decode cL_car 4 = .ok (.iload_n 2, 1) := by decide +kernel
theorem dL_car_5 : decode cL_car 5 = .ok (.invokevirtual 26, 3) := by decide +kernel
theorem dL_car_8 : decode cL_car 8 = .ok (.i2l, 1) := by decide +kernel
theorem dL_car_9 : decode cL_car 9 = .ok (.lastore, 1) := by decide +kernel
theorem dL_car_10 : decode cL_car 10 = .ok (.goto 11, 3) := by decide +kernel
theorem dL_car_13 : decode cL_car 13 = .ok (.astore 4, 2) := by decide +kernel
theorem dL_car_15 : decode cL_car 15 = .ok (.iconst 1, 1) := by decide +kernel
theorem dL_car_16 : decode cL_car 16 = .ok (.ireturn, 1) := by decide +kernel
theorem dL_car_17 : decode cL_car 17 = .ok (.astore 4, 2) := by decide +kernel
theorem dL_car_19 : decode cL_car 19 = .ok (.iconst 2, 1) := by decide +kernel
theorem dL_car_20 : decode cL_car 20 = .ok (.ireturn, 1) := by decide +kernel
theorem dL_car_21 : decode cL_car 21 = .ok (.iconst 0, 1) := by decide +kernel
theorem dL_car_22 : decode cL_car 22 = .ok (.ireturn, 1) := by decide +kernel
theorem dL_train_0 : decode cL_train 0 = .ok (.aload_n 3, 1) := by decide +kernel
theorem dL_train_1 : decode cL_train 1 = .ok (.iconst 0, 1) := by decide +kernel
theorem dL_train_2 : decode cL_train 2 = .ok (.aload_n 0, 1) := by decide +kernel
theorem dL_train_3 : decode cL_train 3 = .ok (.iload_n 1, 1) := by decide +kernel
theorem dL_train_4 : decode cL_train 4 = .ok (.iload_n 2, 1) := by decide +kernel
theorem dL_train_5 : decode cL_train 5 = .ok (.invokevirtual 29, 3) := by decide +kernel
theorem dL_train_8 : decode cL_train 8 = .ok (.i2l, 1) := by decide +kernel
theorem dL_train_9 : decode cL_train 9 = .ok (.lastore, 1) := by decide +kernel
theorem dL_train_10 : decode cL_train 10 = .ok (.goto 11, 3) := by decide +kernel
theorem dL_train_13 : decode cL_train 13 = .ok (.astore 4, 2) := by decide +kernel
theorem dL_train_15 : decode cL_train 15 = .ok (.iconst 1, 1) := by decide +kernel
theorem dL_train_16 : decode cL_train 16 = .ok (.ireturn, 1) := by decide +kernel
theorem dL_train_17 : decode cL_train 17 = .ok (.astore 4, 2) := by decide +kernel
theorem dL_train_19 : decode cL_train 19 = .ok (.iconst 2, 1) := by decide +kernel
theorem dL_train_20 : decode cL_train 20 = .ok (.ireturn, 1) := by decide +kernel
theorem dL_train_21 : decode cL_train 21 = .ok (.iconst 0, 1) := by decide +kernel
theorem dL_train_22 : decode cL_train 22 = .ok (.ireturn, 1) := by decide +kernel
theorem dL_setting_0 : decode cL_setting 0 = .ok (.aload_n 2, 1) := by decide +kernel
theorem dL_setting_1 : decode cL_setting 1 = .ok (.iconst 0, 1) := by decide +kernel
theorem dL_setting_2 : decode cL_setting 2 = .ok (.aload_n 0, 1) := by decide +kernel
theorem dL_setting_3 : decode cL_setting 3 = .ok (.iload_n 1, 1) := by decide +kernel
theorem dL_setting_4 : decode cL_setting 4 = .ok (.invokevirtual 32, 3) := by decide +kernel
theorem dL_setting_7 : decode cL_setting 7 = .ok (.i2l, 1) := by decide +kernel
theorem dL_setting_8 : decode cL_setting 8 = .ok (.lastore, 1) := by decide +kernel
theorem dL_setting_9 : decode cL_setting 9 = .ok (.goto 6, 3) := by decide +kernel
theorem dL_setting_12 : decode cL_setting 12 = .ok (.astore_n 3, 1) := by decide +kernel
theorem dL_setting_13 : decode cL_setting 13 = .ok (.iconst 1, 1) := by decide +kernel
theorem dL_setting_14 : decode cL_setting 14 = .ok (.ireturn, 1) := by decide +kernel
theorem dL_setting_15 : decode cL_setting 15 = .ok (.iconst 0, 1) := by decide +kernel
theorem dL_setting_16 : decode cL_setting 16 = .ok (.ireturn, 1) := by decide +kernel
theorem dL_roll_0 : decode cL_roll 0 = .ok (.aload_n 3, 1) := by decide +kernel
theorem dL_roll_1 : decode cL_roll 1 = .ok (.iconst 0, 1) := by decide +kernel
theorem dL_roll_2 : decode cL_roll 2 = .ok (.aload_n 0, 1) := by decide +kernel
theorem dL_roll_3 : decode cL_roll 3 = .ok (.iload_n 1, 1) := by decide +kernel
theorem dL_roll_4 : decode cL_roll 4 = .ok (.iload_n 2, 1) := by decide +kernel
theorem dL_roll_5 : decode cL_roll 5 = .ok (.invokevirtual 35, 3) := by decide +kernel
theorem dL_roll_8 : decode cL_roll 8 = .ok (.i2l, 1) := by decide +kernel
theorem dL_roll_9 : decode cL_roll 9 = .ok (.lastore, 1) := by decide +kernel
theorem dL_roll_10 : decode cL_roll 10 = .ok (.goto 11, 3) := by decide +kernel
theorem dL_roll_13 : decode cL_roll 13 = .ok (.astore 4, 2) := by decide +kernel
theorem dL_roll_15 : decode cL_roll 15 = .ok (.iconst 1, 1) := by decide +kernel
theorem dL_roll_16 : decode cL_roll 16 = .ok (.ireturn, 1) := by decide +kernel
theorem dL_roll_17 : decode cL_roll 17 = .ok (.astore 4, 2) := by decide +kernel
theorem dL_roll_19 : decode cL_roll 19 = .ok (.iconst 2, 1) := by decide +kernel
theorem dL_roll_20 : decode cL_roll 20 = .ok (.ireturn, 1) := by decide +kernel
theorem dL_roll_21 : decode cL_roll 21 = .ok (.iconst 0, 1) := by decide +kernel
theorem dL_roll_22 : decode cL_roll 22 = .ok (.ireturn, 1) := by decide +kernel
theorem dL_record_0 : decode cL_record 0 = .ok (.aload_n 1, 1) := by decide +kernel
theorem dL_record_1 : decode cL_record 1 = .ok (.iconst 0, 1) := by decide +kernel
theorem dL_record_2 : decode cL_record 2 = .ok (.aload_n 0, 1) := by decide +kernel
theorem dL_record_3 : decode cL_record 3 = .ok (.invokevirtual 38, 3) := by decide +kernel
theorem dL_record_6 : decode cL_record 6 = .ok (.i2l, 1) := by decide +kernel
theorem dL_record_7 : decode cL_record 7 = .ok (.lastore, 1) := by decide +kernel
theorem dL_record_8 : decode cL_record 8 = .ok (.goto 6, 3) := by decide +kernel
theorem dL_record_11 : decode cL_record 11 = .ok (.astore_n 2, 1) := by decide +kernel
theorem dL_record_12 : decode cL_record 12 = .ok (.iconst 1, 1) := by decide +kernel
theorem dL_record_13 : decode cL_record 13 = .ok (.ireturn, 1) := by decide +kernel
theorem dL_record_14 : decode cL_record 14 = .ok (.iconst 0, 1) := by decide +kernel
theorem dL_record_15 : decode cL_record 15 = .ok (.ireturn, 1) := by decide +kernel
theorem dL_strike_0 : decode cL_strike 0 = .ok (.aload_n 2, 1) := by decide +kernel
theorem dL_strike_1 : decode cL_strike 1 = .ok (.iconst 0, 1) := by decide +kernel
theorem dL_strike_2 : decode cL_strike 2 = .ok (.aload_n 0, 1) := by decide +kernel
theorem dL_strike_3 : decode cL_strike 3 = .ok (.iload_n 1, 1) := by decide +kernel
theorem dL_strike_4 : decode cL_strike 4 = .ok (.invokevirtual 42, 3) := by decide +kernel
theorem dL_strike_7 : decode cL_strike 7 = .ok (.i2l, 1) := by decide +kernel
theorem dL_strike_8 : decode cL_strike 8 = .ok (.lastore, 1) := by decide +kernel
theorem dL_strike_9 : decode cL_strike 9 = .ok (.goto 6, 3) := by decide +kernel
theorem dL_strike_12 : decode cL_strike 12 = .ok (.astore_n 3, 1) := by decide +kernel
theorem dL_strike_13 : decode cL_strike 13 = .ok (.iconst 1, 1) := by decide +kernel
theorem dL_strike_14 : decode cL_strike 14 = .ok (.ireturn, 1) := by decide +kernel
theorem dL_strike_15 : decode cL_strike 15 = .ok (.iconst 0, 1) := by decide +kernel
theorem dL_strike_16 : decode cL_strike 16 = .ok (.ireturn, 1) := by decide +kernel
theorem dL_weigh_0 : decode cL_weigh 0 = .ok (.aload_n 3, 1) := by decide +kernel
theorem dL_weigh_1 : decode cL_weigh 1 = .ok (.iconst 0, 1) := by decide +kernel
theorem dL_weigh_2 : decode cL_weigh 2 = .ok (.aload_n 0, 1) := by decide +kernel
theorem dL_weigh_3 : decode cL_weigh 3 = .ok (.iload_n 1, 1) := by decide +kernel
theorem dL_weigh_4 : decode cL_weigh 4 = .ok (.iload_n 2, 1) := by decide +kernel
theorem dL_weigh_5 : decode cL_weigh 5 = .ok (.invokevirtual 45, 3) := by decide +kernel
theorem dL_weigh_8 : decode cL_weigh 8 = .ok (.i2l, 1) := by decide +kernel
theorem dL_weigh_9 : decode cL_weigh 9 = .ok (.lastore, 1) := by decide +kernel
theorem dL_weigh_10 : decode cL_weigh 10 = .ok (.goto 11, 3) := by decide +kernel
theorem dL_weigh_13 : decode cL_weigh 13 = .ok (.astore 4, 2) := by decide +kernel
theorem dL_weigh_15 : decode cL_weigh 15 = .ok (.iconst 1, 1) := by decide +kernel
theorem dL_weigh_16 : decode cL_weigh 16 = .ok (.ireturn, 1) := by decide +kernel
theorem dL_weigh_17 : decode cL_weigh 17 = .ok (.astore 4, 2) := by decide +kernel
theorem dL_weigh_19 : decode cL_weigh 19 = .ok (.iconst 2, 1) := by decide +kernel
theorem dL_weigh_20 : decode cL_weigh 20 = .ok (.ireturn, 1) := by decide +kernel
theorem dL_weigh_21 : decode cL_weigh 21 = .ok (.iconst 0, 1) := by decide +kernel
theorem dL_weigh_22 : decode cL_weigh 22 = .ok (.ireturn, 1) := by decide +kernel
theorem dL_bill_0 : decode cL_bill 0 = .ok (.aload_n 3, 1) := by decide +kernel
theorem dL_bill_1 : decode cL_bill 1 = .ok (.iconst 0, 1) := by decide +kernel
theorem dL_bill_2 : decode cL_bill 2 = .ok (.aload_n 0, 1) := by decide +kernel
theorem dL_bill_3 : decode cL_bill 3 = .ok (.iload_n 1, 1) := by decide +kernel
theorem dL_bill_4 : decode cL_bill 4 = .ok (.iload_n 2, 1) := by decide +kernel
theorem dL_bill_5 : decode cL_bill 5 = .ok (.invokevirtual 48, 3) := by decide +kernel
theorem dL_bill_8 : decode cL_bill 8 = .ok (.i2l, 1) := by decide +kernel
theorem dL_bill_9 : decode cL_bill 9 = .ok (.lastore, 1) := by decide +kernel
theorem dL_bill_10 : decode cL_bill 10 = .ok (.goto 7, 3) := by decide +kernel
theorem dL_bill_13 : decode cL_bill 13 = .ok (.astore 4, 2) := by decide +kernel
theorem dL_bill_15 : decode cL_bill 15 = .ok (.iconst 1, 1) := by decide +kernel
theorem dL_bill_16 : decode cL_bill 16 = .ok (.ireturn, 1) := by decide +kernel
theorem dL_bill_17 : decode cL_bill 17 = .ok (.iconst 0, 1) := by decide +kernel
theorem dL_bill_18 : decode cL_bill 18 = .ok (.ireturn, 1) := by decide +kernel
theorem dL_set_0 : decode cL_set 0 = .ok (.aload_n 3, 1) := by decide +kernel
theorem dL_set_1 : decode cL_set 1 = .ok (.iconst 0, 1) := by decide +kernel
theorem dL_set_2 : decode cL_set 2 = .ok (.aload_n 0, 1) := by decide +kernel
theorem dL_set_3 : decode cL_set 3 = .ok (.iload_n 1, 1) := by decide +kernel
theorem dL_set_4 : decode cL_set 4 = .ok (.iload_n 2, 1) := by decide +kernel
theorem dL_set_5 : decode cL_set 5 = .ok (.invokevirtual 51, 3) := by decide +kernel
theorem dL_set_8 : decode cL_set 8 = .ok (.i2l, 1) := by decide +kernel
theorem dL_set_9 : decode cL_set 9 = .ok (.lastore, 1) := by decide +kernel
theorem dL_set_10 : decode cL_set 10 = .ok (.goto 7, 3) := by decide +kernel
theorem dL_set_13 : decode cL_set 13 = .ok (.astore 4, 2) := by decide +kernel
theorem dL_set_15 : decode cL_set 15 = .ok (.iconst 1, 1) := by decide +kernel
theorem dL_set_16 : decode cL_set 16 = .ok (.ireturn, 1) := by decide +kernel
theorem dL_set_17 : decode cL_set 17 = .ok (.iconst 0, 1) := by decide +kernel
theorem dL_set_18 : decode cL_set 18 = .ok (.ireturn, 1) := by decide +kernel
theorem dL_leave_0 : decode cL_leave 0 = .ok (.aload_n 1, 1) := by decide +kernel
theorem dL_leave_1 : decode cL_leave 1 = .ok (.iconst 0, 1) := by decide +kernel
theorem dL_leave_2 : decode cL_leave 2 = .ok (.aload_n 0, 1) := by decide +kernel
theorem dL_leave_3 : decode cL_leave 3 = .ok (.invokevirtual 54, 3) := by decide +kernel
theorem dL_leave_6 : decode cL_leave 6 = .ok (.i2l, 1) := by decide +kernel
theorem dL_leave_7 : decode cL_leave 7 = .ok (.lastore, 1) := by decide +kernel
theorem dL_leave_8 : decode cL_leave 8 = .ok (.goto 6, 3) := by decide +kernel
theorem dL_leave_11 : decode cL_leave 11 = .ok (.astore_n 2, 1) := by decide +kernel
theorem dL_leave_12 : decode cL_leave 12 = .ok (.iconst 1, 1) := by decide +kernel
theorem dL_leave_13 : decode cL_leave 13 = .ok (.ireturn, 1) := by decide +kernel
theorem dL_leave_14 : decode cL_leave 14 = .ok (.iconst 0, 1) := by decide +kernel
theorem dL_leave_15 : decode cL_leave 15 = .ok (.ireturn, 1) := by decide +kernel
theorem dL_undo_0 : decode cL_undo 0 = .ok (.aload_n 1, 1) := by decide +kernel
theorem dL_undo_1 : decode cL_undo 1 = .ok (.iconst 0, 1) := by decide +kernel
theorem dL_undo_2 : decode cL_undo 2 = .ok (.aload_n 0, 1) := by decide +kernel
theorem dL_undo_3 : decode cL_undo 3 = .ok (.invokevirtual 57, 3) := by decide +kernel
theorem dL_undo_6 : decode cL_undo 6 = .ok (.i2l, 1) := by decide +kernel
theorem dL_undo_7 : decode cL_undo 7 = .ok (.lastore, 1) := by decide +kernel
theorem dL_undo_8 : decode cL_undo 8 = .ok (.goto 6, 3) := by decide +kernel
theorem dL_undo_11 : decode cL_undo 11 = .ok (.astore_n 2, 1) := by decide +kernel
theorem dL_undo_12 : decode cL_undo 12 = .ok (.iconst 1, 1) := by decide +kernel
theorem dL_undo_13 : decode cL_undo 13 = .ok (.ireturn, 1) := by decide +kernel
theorem dL_undo_14 : decode cL_undo 14 = .ok (.iconst 0, 1) := by decide +kernel
theorem dL_undo_15 : decode cL_undo 15 = .ok (.ireturn, 1) := by decide +kernel
theorem dL_without_0 : decode cL_without 0 = .ok (.aload_n 2, 1) := by decide +kernel
theorem dL_without_1 : decode cL_without 1 = .ok (.iconst 0, 1) := by decide +kernel
theorem dL_without_2 : decode cL_without 2 = .ok (.aload_n 0, 1) := by decide +kernel
theorem dL_without_3 : decode cL_without 3 = .ok (.iload_n 1, 1) := by decide +kernel
theorem dL_without_4 : decode cL_without 4 = .ok (.invokevirtual 60, 3) := by decide +kernel
theorem dL_without_7 : decode cL_without 7 = .ok (.i2l, 1) := by decide +kernel
theorem dL_without_8 : decode cL_without 8 = .ok (.lastore, 1) := by decide +kernel
theorem dL_without_9 : decode cL_without 9 = .ok (.goto 6, 3) := by decide +kernel
theorem dL_without_12 : decode cL_without 12 = .ok (.astore_n 3, 1) := by decide +kernel
theorem dL_without_13 : decode cL_without 13 = .ok (.iconst 1, 1) := by decide +kernel
theorem dL_without_14 : decode cL_without 14 = .ok (.ireturn, 1) := by decide +kernel
theorem dL_without_15 : decode cL_without 15 = .ok (.iconst 0, 1) := by decide +kernel
theorem dL_without_16 : decode cL_without 16 = .ok (.ireturn, 1) := by decide +kernel
theorem dL_sureness_0 : decode cL_sureness 0 = .ok (.aload_n 2, 1) := by decide +kernel
theorem dL_sureness_1 : decode cL_sureness 1 = .ok (.iconst 0, 1) := by decide +kernel
theorem dL_sureness_2 : decode cL_sureness 2 = .ok (.aload_n 0, 1) := by decide +kernel
theorem dL_sureness_3 : decode cL_sureness 3 = .ok (.iload_n 1, 1) := by decide +kernel
theorem dL_sureness_4 : decode cL_sureness 4 = .ok (.invokevirtual 63, 3) := by decide +kernel
theorem dL_sureness_7 : decode cL_sureness 7 = .ok (.i2l, 1) := by decide +kernel
theorem dL_sureness_8 : decode cL_sureness 8 = .ok (.lastore, 1) := by decide +kernel
theorem dL_sureness_9 : decode cL_sureness 9 = .ok (.goto 6, 3) := by decide +kernel
theorem dL_sureness_12 : decode cL_sureness 12 = .ok (.astore_n 3, 1) := by decide +kernel
theorem dL_sureness_13 : decode cL_sureness 13 = .ok (.iconst 1, 1) := by decide +kernel
theorem dL_sureness_14 : decode cL_sureness 14 = .ok (.ireturn, 1) := by decide +kernel
theorem dL_sureness_15 : decode cL_sureness 15 = .ok (.iconst 0, 1) := by decide +kernel
theorem dL_sureness_16 : decode cL_sureness 16 = .ok (.ireturn, 1) := by decide +kernel
theorem dL_plans_0 : decode cL_plans 0 = .ok (.aload_n 2, 1) := by decide +kernel
theorem dL_plans_1 : decode cL_plans 1 = .ok (.iconst 0, 1) := by decide +kernel
theorem dL_plans_2 : decode cL_plans 2 = .ok (.aload_n 0, 1) := by decide +kernel
theorem dL_plans_3 : decode cL_plans 3 = .ok (.iload_n 1, 1) := by decide +kernel
theorem dL_plans_4 : decode cL_plans 4 = .ok (.invokevirtual 66, 3) := by decide +kernel
theorem dL_plans_7 : decode cL_plans 7 = .ok (.i2l, 1) := by decide +kernel
theorem dL_plans_8 : decode cL_plans 8 = .ok (.lastore, 1) := by decide +kernel
theorem dL_plans_9 : decode cL_plans 9 = .ok (.goto 6, 3) := by decide +kernel
theorem dL_plans_12 : decode cL_plans 12 = .ok (.astore_n 3, 1) := by decide +kernel
theorem dL_plans_13 : decode cL_plans 13 = .ok (.iconst 1, 1) := by decide +kernel
theorem dL_plans_14 : decode cL_plans 14 = .ok (.ireturn, 1) := by decide +kernel
theorem dL_plans_15 : decode cL_plans 15 = .ok (.iconst 0, 1) := by decide +kernel
theorem dL_plans_16 : decode cL_plans 16 = .ok (.ireturn, 1) := by decide +kernel
theorem dL_heavy_0 : decode cL_heavy 0 = .ok (.aload_n 2, 1) := by decide +kernel
theorem dL_heavy_1 : decode cL_heavy 1 = .ok (.iconst 0, 1) := by decide +kernel
theorem dL_heavy_2 : decode cL_heavy 2 = .ok (.aload_n 0, 1) := by decide +kernel
theorem dL_heavy_3 : decode cL_heavy 3 = .ok (.iload_n 1, 1) := by decide +kernel
theorem dL_heavy_4 : decode cL_heavy 4 = .ok (.invokevirtual 69, 3) := by decide +kernel
theorem dL_heavy_7 : decode cL_heavy 7 = .ok (.i2l, 1) := by decide +kernel
theorem dL_heavy_8 : decode cL_heavy 8 = .ok (.lastore, 1) := by decide +kernel
theorem dL_heavy_9 : decode cL_heavy 9 = .ok (.goto 6, 3) := by decide +kernel
theorem dL_heavy_12 : decode cL_heavy 12 = .ok (.astore_n 3, 1) := by decide +kernel
theorem dL_heavy_13 : decode cL_heavy 13 = .ok (.iconst 1, 1) := by decide +kernel
theorem dL_heavy_14 : decode cL_heavy 14 = .ok (.ireturn, 1) := by decide +kernel
theorem dL_heavy_15 : decode cL_heavy 15 = .ok (.iconst 0, 1) := by decide +kernel
theorem dL_heavy_16 : decode cL_heavy 16 = .ok (.ireturn, 1) := by decide +kernel
theorem dL_runScript_0 : decode cL_runScript 0 = .ok (.aload 4, 2) := by decide +kernel
theorem dL_runScript_2 : decode cL_runScript 2 = .ok (.iconst 0, 1) := by decide +kernel
theorem dL_runScript_3 : decode cL_runScript 3 = .ok (.aload_n 0, 1) := by decide +kernel
theorem dL_runScript_4 : decode cL_runScript 4 = .ok (.iload_n 1, 1) := by decide +kernel
theorem dL_runScript_5 : decode cL_runScript 5 = .ok (.lload_n 2, 1) := by decide +kernel
theorem dL_runScript_6 : decode cL_runScript 6 = .ok (.invokevirtual 72, 3) := by decide +kernel
theorem dL_runScript_9 : decode cL_runScript 9 = .ok (.i2l, 1) := by decide +kernel
theorem dL_runScript_10 : decode cL_runScript 10 = .ok (.lastore, 1) := by decide +kernel
theorem dL_runScript_11 : decode cL_runScript 11 = .ok (.goto 7, 3) := by decide +kernel
theorem dL_runScript_14 : decode cL_runScript 14 = .ok (.astore 5, 2) := by decide +kernel
theorem dL_runScript_16 : decode cL_runScript 16 = .ok (.iconst 1, 1) := by decide +kernel
theorem dL_runScript_17 : decode cL_runScript 17 = .ok (.ireturn, 1) := by decide +kernel
theorem dL_runScript_18 : decode cL_runScript 18 = .ok (.iconst 0, 1) := by decide +kernel
theorem dL_runScript_19 : decode cL_runScript 19 = .ok (.ireturn, 1) := by decide +kernel
theorem dL_simulate_0 : decode cL_simulate 0 = .ok (.aload 4, 2) := by decide +kernel
theorem dL_simulate_2 : decode cL_simulate 2 = .ok (.iconst 0, 1) := by decide +kernel
theorem dL_simulate_3 : decode cL_simulate 3 = .ok (.aload_n 0, 1) := by decide +kernel
theorem dL_simulate_4 : decode cL_simulate 4 = .ok (.lload_n 1, 1) := by decide +kernel
theorem dL_simulate_5 : decode cL_simulate 5 = .ok (.iload_n 3, 1) := by decide +kernel
theorem dL_simulate_6 : decode cL_simulate 6 = .ok (.invokevirtual 76, 3) := by decide +kernel
theorem dL_simulate_9 : decode cL_simulate 9 = .ok (.i2l, 1) := by decide +kernel
theorem dL_simulate_10 : decode cL_simulate 10 = .ok (.lastore, 1) := by decide +kernel
theorem dL_simulate_11 : decode cL_simulate 11 = .ok (.goto 7, 3) := by decide +kernel
theorem dL_simulate_14 : decode cL_simulate 14 = .ok (.astore 5, 2) := by decide +kernel
theorem dL_simulate_16 : decode cL_simulate 16 = .ok (.iconst 1, 1) := by decide +kernel
theorem dL_simulate_17 : decode cL_simulate 17 = .ok (.ireturn, 1) := by decide +kernel
theorem dL_simulate_18 : decode cL_simulate 18 = .ok (.iconst 0, 1) := by decide +kernel
theorem dL_simulate_19 : decode cL_simulate 19 = .ok (.ireturn, 1) := by decide +kernel
theorem dL_save_0 : decode cL_save 0 = .ok (.aload_n 2, 1) := by decide +kernel
theorem dL_save_1 : decode cL_save 1 = .ok (.iconst 0, 1) := by decide +kernel
theorem dL_save_2 : decode cL_save 2 = .ok (.aload_n 0, 1) := by decide +kernel
theorem dL_save_3 : decode cL_save 3 = .ok (.iload_n 1, 1) := by decide +kernel
theorem dL_save_4 : decode cL_save 4 = .ok (.invokevirtual 80, 3) := by decide +kernel
theorem dL_save_7 : decode cL_save 7 = .ok (.i2l, 1) := by decide +kernel
theorem dL_save_8 : decode cL_save 8 = .ok (.lastore, 1) := by decide +kernel
theorem dL_save_9 : decode cL_save 9 = .ok (.goto 6, 3) := by decide +kernel
theorem dL_save_12 : decode cL_save 12 = .ok (.astore_n 3, 1) := by decide +kernel
theorem dL_save_13 : decode cL_save 13 = .ok (.iconst 1, 1) := by decide +kernel
theorem dL_save_14 : decode cL_save 14 = .ok (.ireturn, 1) := by decide +kernel
theorem dL_save_15 : decode cL_save 15 = .ok (.iconst 0, 1) := by decide +kernel
theorem dL_save_16 : decode cL_save 16 = .ok (.ireturn, 1) := by decide +kernel
theorem dL_restore_0 : decode cL_restore 0 = .ok (.aload_n 2, 1) := by decide +kernel
theorem dL_restore_1 : decode cL_restore 1 = .ok (.iconst 0, 1) := by decide +kernel
theorem dL_restore_2 : decode cL_restore 2 = .ok (.aload_n 0, 1) := by decide +kernel
theorem dL_restore_3 : decode cL_restore 3 = .ok (.iload_n 1, 1) := by decide +kernel
theorem dL_restore_4 : decode cL_restore 4 = .ok (.invokevirtual 83, 3) := by decide +kernel
theorem dL_restore_7 : decode cL_restore 7 = .ok (.i2l, 1) := by decide +kernel
theorem dL_restore_8 : decode cL_restore 8 = .ok (.lastore, 1) := by decide +kernel
theorem dL_restore_9 : decode cL_restore 9 = .ok (.goto 9, 3) := by decide +kernel
theorem dL_restore_12 : decode cL_restore 12 = .ok (.astore_n 3, 1) := by decide +kernel
theorem dL_restore_13 : decode cL_restore 13 = .ok (.iconst 1, 1) := by decide +kernel
theorem dL_restore_14 : decode cL_restore 14 = .ok (.ireturn, 1) := by decide +kernel
theorem dL_restore_15 : decode cL_restore 15 = .ok (.astore_n 3, 1) := by decide +kernel
theorem dL_restore_16 : decode cL_restore 16 = .ok (.iconst 2, 1) := by decide +kernel
theorem dL_restore_17 : decode cL_restore 17 = .ok (.ireturn, 1) := by decide +kernel
theorem dL_restore_18 : decode cL_restore 18 = .ok (.iconst 0, 1) := by decide +kernel
theorem dL_restore_19 : decode cL_restore 19 = .ok (.ireturn, 1) := by decide +kernel
theorem dL_law_0 : decode cL_law 0 = .ok (.new 8, 3) := by decide +kernel
theorem dL_law_3 : decode cL_law 3 = .ok (.dup, 1) := by decide +kernel
theorem dL_law_4 : decode cL_law 4 = .ok (.invokespecial 86, 3) := by decide +kernel
theorem dL_law_7 : decode cL_law 7 = .ok (.astore_n 1, 1) := by decide +kernel
theorem dL_law_8 : decode cL_law 8 = .ok (.new 87, 3) := by decide +kernel
theorem dL_law_11 : decode cL_law 11 = .ok (.dup, 1) := by decide +kernel
theorem dL_law_12 : decode cL_law 12 = .ok (.invokespecial 89, 3) := by decide +kernel
theorem dL_law_15 : decode cL_law 15 = .ok (.astore_n 2, 1) := by decide +kernel
theorem dL_law_16 : decode cL_law 16 = .ok (.iconst 1, 1) := by decide +kernel
theorem dL_law_17 : decode cL_law 17 = .ok (.newarray .long, 2) := by decide +kernel
theorem dL_law_19 : decode cL_law 19 = .ok (.astore_n 3, 1) := by decide +kernel
theorem dL_law_20 : decode cL_law 20 = .ok (.iconst 0, 1) := by decide +kernel
theorem dL_law_21 : decode cL_law 21 = .ok (.istore 4, 2) := by decide +kernel
theorem dL_law_23 : decode cL_law 23 = .ok (.iload 4, 2) := by decide +kernel
theorem dL_law_25 : decode cL_law 25 = .ok (.aload_n 0, 1) := by decide +kernel
theorem dL_law_26 : decode cL_law 26 = .ok (.arraylength, 1) := by decide +kernel
theorem dL_law_27 : decode cL_law 27 = .ok (.iconst 4, 1) := by decide +kernel
theorem dL_law_28 : decode cL_law 28 = .ok (.isub, 1) := by decide +kernel
theorem dL_law_29 : decode cL_law 29 = .ok (.if_icmp .gt 1570, 3) := by decide +kernel
theorem dL_law_32 : decode cL_law 32 = .ok (.aload_n 0, 1) := by decide +kernel
theorem dL_law_33 : decode cL_law 33 = .ok (.iload 4, 2) := by decide +kernel
theorem dL_law_35 : decode cL_law 35 = .ok (.iaload, 1) := by decide +kernel
theorem dL_law_36 : decode cL_law 36 = .ok (.bipush 31, 2) := by decide +kernel
theorem dL_law_38 : decode cL_law 38 = .ok (.iand, 1) := by decide +kernel
theorem dL_law_39 : decode cL_law 39 = .ok (.tableswitch 1554 0 26 #[121, 177, 190, 203, 216, 272, 340, 408, 476, 532, 600, 644, 700, 768, 836, 904, 948, 992, 1048, 1061, 1074, 1130, 1186, 1242, 1342, 1442, 1498], 121) := by decide +kernel
theorem dL_law_160 : decode cL_law 160 = .ok (.aload_n 1, 1) := by decide +kernel
theorem dL_law_161 : decode cL_law 161 = .ok (.aload_n 0, 1) := by decide +kernel
theorem dL_law_162 : decode cL_law 162 = .ok (.iload 4, 2) := by decide +kernel
theorem dL_law_164 : decode cL_law 164 = .ok (.iconst 1, 1) := by decide +kernel
theorem dL_law_165 : decode cL_law 165 = .ok (.iadd, 1) := by decide +kernel
theorem dL_law_166 : decode cL_law 166 = .ok (.iaload, 1) := by decide +kernel
theorem dL_law_167 : decode cL_law 167 = .ok (.aload_n 3, 1) := by decide +kernel
theorem dL_law_168 : decode cL_law 168 = .ok (.invokestatic 90, 3) := by decide +kernel
theorem dL_law_171 : decode cL_law 171 = .ok (.istore 5, 2) := by decide +kernel
theorem dL_law_173 : decode cL_law 173 = .ok (.aload_n 2, 1) := by decide +kernel
theorem dL_law_174 : decode cL_law 174 = .ok (.aload_n 0, 1) := by decide +kernel
theorem dL_law_175 : decode cL_law 175 = .ok (.iload 4, 2) := by decide +kernel
theorem dL_law_177 : decode cL_law 177 = .ok (.iconst 1, 1) := by decide +kernel
theorem dL_law_178 : decode cL_law 178 = .ok (.iadd, 1) := by decide +kernel
theorem dL_law_179 : decode cL_law 179 = .ok (.iaload, 1) := by decide +kernel
theorem dL_law_180 : decode cL_law 180 = .ok (.invokevirtual 95, 3) := by decide +kernel
theorem dL_law_183 : decode cL_law 183 = .ok (.istore 6, 2) := by decide +kernel
theorem dL_law_185 : decode cL_law 185 = .ok (.aload_n 2, 1) := by decide +kernel
theorem dL_law_186 : decode cL_law 186 = .ok (.invokevirtual 96, 3) := by decide +kernel
theorem dL_law_189 : decode cL_law 189 = .ok (.iload 5, 2) := by decide +kernel
theorem dL_law_191 : decode cL_law 191 = .ok (.if_icmp .eq 5, 3) := by decide +kernel
theorem dL_law_194 : decode cL_law 194 = .ok (.iconst 0, 1) := by decide +kernel
theorem dL_law_195 : decode cL_law 195 = .ok (.ireturn, 1) := by decide +kernel
theorem dL_law_196 : decode cL_law 196 = .ok (.iload 5, 2) := by decide +kernel
theorem dL_law_198 : decode cL_law 198 = .ok (.ifCond .ne 15, 3) := by decide +kernel
theorem dL_law_201 : decode cL_law 201 = .ok (.aload_n 3, 1) := by decide +kernel
theorem dL_law_202 : decode cL_law 202 = .ok (.iconst 0, 1) := by decide +kernel
theorem dL_law_203 : decode cL_law 203 = .ok (.laload, 1) := by decide +kernel
theorem dL_law_204 : decode cL_law 204 = .ok (.iload 6, 2) := by decide +kernel
theorem dL_law_206 : decode cL_law 206 = .ok (.i2l, 1) := by decide +kernel
theorem dL_law_207 : decode cL_law 207 = .ok (.lcmp, 1) := by decide +kernel
theorem dL_law_208 : decode cL_law 208 = .ok (.ifCond .eq 5, 3) := by decide +kernel
theorem dL_law_211 : decode cL_law 211 = .ok (.iconst 0, 1) := by decide +kernel
theorem dL_law_212 : decode cL_law 212 = .ok (.ireturn, 1) := by decide +kernel
theorem dL_law_213 : decode cL_law 213 = .ok (.goto 1380, 3) := by decide +kernel
theorem dL_law_216 : decode cL_law 216 = .ok (.aload_n 1, 1) := by decide +kernel
theorem dL_law_217 : decode cL_law 217 = .ok (.invokevirtual 99, 3) := by decide +kernel
theorem dL_law_220 : decode cL_law 220 = .ok (.aload_n 2, 1) := by decide +kernel
theorem dL_law_221 : decode cL_law 221 = .ok (.invokevirtual 102, 3) := by decide +kernel
theorem dL_law_224 : decode cL_law 224 = .ok (.if_icmp .eq 1369, 3) := by decide +kernel
theorem dL_law_227 : decode cL_law 227 = .ok (.iconst 0, 1) := by decide +kernel
theorem dL_law_228 : decode cL_law 228 = .ok (.ireturn, 1) := by decide +kernel
theorem dL_law_229 : decode cL_law 229 = .ok (.aload_n 1, 1) := by decide +kernel
theorem dL_law_230 : decode cL_law 230 = .ok (.invokevirtual 103, 3) := by decide +kernel
theorem dL_law_233 : decode cL_law 233 = .ok (.aload_n 2, 1) := by decide +kernel
theorem dL_law_234 : decode cL_law 234 = .ok (.invokevirtual 106, 3) := by decide +kernel
theorem dL_law_237 : decode cL_law 237 = .ok (.if_icmp .eq 1356, 3) := by decide +kernel
theorem dL_law_240 : decode cL_law 240 = .ok (.iconst 0, 1) := by decide +kernel
theorem dL_law_241 : decode cL_law 241 = .ok (.ireturn, 1) := by decide +kernel
theorem dL_law_242 : decode cL_law 242 = .ok (.aload_n 1, 1) := by decide +kernel
theorem dL_law_243 : decode cL_law 243 = .ok (.invokevirtual 107, 3) := by decide +kernel
theorem dL_law_246 : decode cL_law 246 = .ok (.aload_n 2, 1) := by decide +kernel
theorem dL_law_247 : decode cL_law 247 = .ok (.invokevirtual 110, 3) := by decide +kernel
theorem dL_law_250 : decode cL_law 250 = .ok (.if_icmp .eq 1343, 3) := by decide +kernel
theorem dL_law_253 : decode cL_law 253 = .ok (.iconst 0, 1) := by decide +kernel
theorem dL_law_254 : decode cL_law 254 = .ok (.ireturn, 1) := by decide +kernel
theorem dL_law_255 : decode cL_law 255 = .ok (.aload_n 1, 1) := by decide +kernel
theorem dL_law_256 : decode cL_law 256 = .ok (.aload_n 0, 1) := by decide +kernel
theorem dL_law_257 : decode cL_law 257 = .ok (.iload 4, 2) := by decide +kernel
theorem dL_law_259 : decode cL_law 259 = .ok (.iconst 1, 1) := by decide +kernel
theorem dL_law_260 : decode cL_law 260 = .ok (.iadd, 1) := by decide +kernel
theorem dL_law_261 : decode cL_law 261 = .ok (.iaload, 1) := by decide +kernel
theorem dL_law_262 : decode cL_law 262 = .ok (.aload_n 3, 1) := by decide +kernel
theorem dL_law_263 : decode cL_law 263 = .ok (.invokestatic 111, 3) := by decide +kernel
theorem dL_law_266 : decode cL_law 266 = .ok (.istore 5, 2) := by decide +kernel
theorem dL_law_268 : decode cL_law 268 = .ok (.aload_n 2, 1) := by decide +kernel
theorem dL_law_269 : decode cL_law 269 = .ok (.aload_n 0, 1) := by decide +kernel
theorem dL_law_270 : decode cL_law 270 = .ok (.iload 4, 2) := by decide +kernel
theorem dL_law_272 : decode cL_law 272 = .ok (.iconst 1, 1) := by decide +kernel
theorem dL_law_273 : decode cL_law 273 = .ok (.iadd, 1) := by decide +kernel
theorem dL_law_274 : decode cL_law 274 = .ok (.iaload, 1) := by decide +kernel
theorem dL_law_275 : decode cL_law 275 = .ok (.invokevirtual 113, 3) := by decide +kernel
theorem dL_law_278 : decode cL_law 278 = .ok (.istore 6, 2) := by decide +kernel
theorem dL_law_280 : decode cL_law 280 = .ok (.aload_n 2, 1) := by decide +kernel
theorem dL_law_281 : decode cL_law 281 = .ok (.invokevirtual 96, 3) := by decide +kernel
theorem dL_law_284 : decode cL_law 284 = .ok (.iload 5, 2) := by decide +kernel
theorem dL_law_286 : decode cL_law 286 = .ok (.if_icmp .eq 5, 3) := by decide +kernel
theorem dL_law_289 : decode cL_law 289 = .ok (.iconst 0, 1) := by decide +kernel
theorem dL_law_290 : decode cL_law 290 = .ok (.ireturn, 1) := by decide +kernel
theorem dL_law_291 : decode cL_law 291 = .ok (.iload 5, 2) := by decide +kernel
theorem dL_law_293 : decode cL_law 293 = .ok (.ifCond .ne 15, 3) := by decide +kernel
theorem dL_law_296 : decode cL_law 296 = .ok (.aload_n 3, 1) := by decide +kernel
theorem dL_law_297 : decode cL_law 297 = .ok (.iconst 0, 1) := by decide +kernel
theorem dL_law_298 : decode cL_law 298 = .ok (.laload, 1) := by decide +kernel
theorem dL_law_299 : decode cL_law 299 = .ok (.iload 6, 2) := by decide +kernel
theorem dL_law_301 : decode cL_law 301 = .ok (.i2l, 1) := by decide +kernel
theorem dL_law_302 : decode cL_law 302 = .ok (.lcmp, 1) := by decide +kernel
theorem dL_law_303 : decode cL_law 303 = .ok (.ifCond .eq 5, 3) := by decide +kernel
theorem dL_law_306 : decode cL_law 306 = .ok (.iconst 0, 1) := by decide +kernel
theorem dL_law_307 : decode cL_law 307 = .ok (.ireturn, 1) := by decide +kernel
theorem dL_law_308 : decode cL_law 308 = .ok (.goto 1285, 3) := by decide +kernel
theorem dL_law_311 : decode cL_law 311 = .ok (.aload_n 1, 1) := by decide +kernel
theorem dL_law_312 : decode cL_law 312 = .ok (.aload_n 0, 1) := by decide +kernel
theorem dL_law_313 : decode cL_law 313 = .ok (.iload 4, 2) := by decide +kernel
theorem dL_law_315 : decode cL_law 315 = .ok (.iconst 1, 1) := by decide +kernel
theorem dL_law_316 : decode cL_law 316 = .ok (.iadd, 1) := by decide +kernel
theorem dL_law_317 : decode cL_law 317 = .ok (.iaload, 1) := by decide +kernel
theorem dL_law_318 : decode cL_law 318 = .ok (.aload_n 0, 1) := by decide +kernel
theorem dL_law_319 : decode cL_law 319 = .ok (.iload 4, 2) := by decide +kernel
theorem dL_law_321 : decode cL_law 321 = .ok (.iconst 2, 1) := by decide +kernel
theorem dL_law_322 : decode cL_law 322 = .ok (.iadd, 1) := by decide +kernel
theorem dL_law_323 : decode cL_law 323 = .ok (.iaload, 1) := by decide +kernel
theorem dL_law_324 : decode cL_law 324 = .ok (.aload_n 3, 1) := by decide +kernel
theorem dL_law_325 : decode cL_law 325 = .ok (.invokestatic 114, 3) := by decide +kernel
theorem dL_law_328 : decode cL_law 328 = .ok (.istore 5, 2) := by decide +kernel
theorem dL_law_330 : decode cL_law 330 = .ok (.aload_n 2, 1) := by decide +kernel
theorem dL_law_331 : decode cL_law 331 = .ok (.aload_n 0, 1) := by decide +kernel
theorem dL_law_332 : decode cL_law 332 = .ok (.iload 4, 2) := by decide +kernel
theorem dL_law_334 : decode cL_law 334 = .ok (.iconst 1, 1) := by decide +kernel
theorem dL_law_335 : decode cL_law 335 = .ok (.iadd, 1) := by decide +kernel
theorem dL_law_336 : decode cL_law 336 = .ok (.iaload, 1) := by decide +kernel
theorem dL_law_337 : decode cL_law 337 = .ok (.aload_n 0, 1) := by decide +kernel
theorem dL_law_338 : decode cL_law 338 = .ok (.iload 4, 2) := by decide +kernel
theorem dL_law_340 : decode cL_law 340 = .ok (.iconst 2, 1) := by decide +kernel
theorem dL_law_341 : decode cL_law 341 = .ok (.iadd, 1) := by decide +kernel
theorem dL_law_342 : decode cL_law 342 = .ok (.iaload, 1) := by decide +kernel
theorem dL_law_343 : decode cL_law 343 = .ok (.invokevirtual 117, 3) := by decide +kernel
theorem dL_law_346 : decode cL_law 346 = .ok (.istore 6, 2) := by decide +kernel
theorem dL_law_348 : decode cL_law 348 = .ok (.aload_n 2, 1) := by decide +kernel
theorem dL_law_349 : decode cL_law 349 = .ok (.invokevirtual 96, 3) := by decide +kernel
theorem dL_law_352 : decode cL_law 352 = .ok (.iload 5, 2) := by decide +kernel
theorem dL_law_354 : decode cL_law 354 = .ok (.if_icmp .eq 5, 3) := by decide +kernel
theorem dL_law_357 : decode cL_law 357 = .ok (.iconst 0, 1) := by decide +kernel
theorem dL_law_358 : decode cL_law 358 = .ok (.ireturn, 1) := by decide +kernel
theorem dL_law_359 : decode cL_law 359 = .ok (.iload 5, 2) := by decide +kernel
theorem dL_law_361 : decode cL_law 361 = .ok (.ifCond .ne 15, 3) := by decide +kernel
theorem dL_law_364 : decode cL_law 364 = .ok (.aload_n 3, 1) := by decide +kernel
theorem dL_law_365 : decode cL_law 365 = .ok (.iconst 0, 1) := by decide +kernel
theorem dL_law_366 : decode cL_law 366 = .ok (.laload, 1) := by decide +kernel
theorem dL_law_367 : decode cL_law 367 = .ok (.iload 6, 2) := by decide +kernel
theorem dL_law_369 : decode cL_law 369 = .ok (.i2l, 1) := by decide +kernel
theorem dL_law_370 : decode cL_law 370 = .ok (.lcmp, 1) := by decide +kernel
theorem dL_law_371 : decode cL_law 371 = .ok (.ifCond .eq 5, 3) := by decide +kernel
theorem dL_law_374 : decode cL_law 374 = .ok (.iconst 0, 1) := by decide +kernel
theorem dL_law_375 : decode cL_law 375 = .ok (.ireturn, 1) := by decide +kernel
theorem dL_law_376 : decode cL_law 376 = .ok (.goto 1217, 3) := by decide +kernel
theorem dL_law_379 : decode cL_law 379 = .ok (.aload_n 1, 1) := by decide +kernel
theorem dL_law_380 : decode cL_law 380 = .ok (.aload_n 0, 1) := by decide +kernel
theorem dL_law_381 : decode cL_law 381 = .ok (.iload 4, 2) := by decide +kernel
theorem dL_law_383 : decode cL_law 383 = .ok (.iconst 1, 1) := by decide +kernel
theorem dL_law_384 : decode cL_law 384 = .ok (.iadd, 1) := by decide +kernel
theorem dL_law_385 : decode cL_law 385 = .ok (.iaload, 1) := by decide +kernel
theorem dL_law_386 : decode cL_law 386 = .ok (.aload_n 0, 1) := by decide +kernel
theorem dL_law_387 : decode cL_law 387 = .ok (.iload 4, 2) := by decide +kernel
theorem dL_law_389 : decode cL_law 389 = .ok (.iconst 2, 1) := by decide +kernel
theorem dL_law_390 : decode cL_law 390 = .ok (.iadd, 1) := by decide +kernel
theorem dL_law_391 : decode cL_law 391 = .ok (.iaload, 1) := by decide +kernel
theorem dL_law_392 : decode cL_law 392 = .ok (.aload_n 3, 1) := by decide +kernel
theorem dL_law_393 : decode cL_law 393 = .ok (.invokestatic 118, 3) := by decide +kernel
theorem dL_law_396 : decode cL_law 396 = .ok (.istore 5, 2) := by decide +kernel
theorem dL_law_398 : decode cL_law 398 = .ok (.aload_n 2, 1) := by decide +kernel
theorem dL_law_399 : decode cL_law 399 = .ok (.aload_n 0, 1) := by decide +kernel
theorem dL_law_400 : decode cL_law 400 = .ok (.iload 4, 2) := by decide +kernel
theorem dL_law_402 : decode cL_law 402 = .ok (.iconst 1, 1) := by decide +kernel
theorem dL_law_403 : decode cL_law 403 = .ok (.iadd, 1) := by decide +kernel
theorem dL_law_404 : decode cL_law 404 = .ok (.iaload, 1) := by decide +kernel
theorem dL_law_405 : decode cL_law 405 = .ok (.aload_n 0, 1) := by decide +kernel
theorem dL_law_406 : decode cL_law 406 = .ok (.iload 4, 2) := by decide +kernel
theorem dL_law_408 : decode cL_law 408 = .ok (.iconst 2, 1) := by decide +kernel
theorem dL_law_409 : decode cL_law 409 = .ok (.iadd, 1) := by decide +kernel
theorem dL_law_410 : decode cL_law 410 = .ok (.iaload, 1) := by decide +kernel
theorem dL_law_411 : decode cL_law 411 = .ok (.invokevirtual 120, 3) := by decide +kernel
theorem dL_law_414 : decode cL_law 414 = .ok (.istore 6, 2) := by decide +kernel
theorem dL_law_416 : decode cL_law 416 = .ok (.aload_n 2, 1) := by decide +kernel
theorem dL_law_417 : decode cL_law 417 = .ok (.invokevirtual 96, 3) := by decide +kernel
theorem dL_law_420 : decode cL_law 420 = .ok (.iload 5, 2) := by decide +kernel
theorem dL_law_422 : decode cL_law 422 = .ok (.if_icmp .eq 5, 3) := by decide +kernel
theorem dL_law_425 : decode cL_law 425 = .ok (.iconst 0, 1) := by decide +kernel
theorem dL_law_426 : decode cL_law 426 = .ok (.ireturn, 1) := by decide +kernel
theorem dL_law_427 : decode cL_law 427 = .ok (.iload 5, 2) := by decide +kernel
theorem dL_law_429 : decode cL_law 429 = .ok (.ifCond .ne 15, 3) := by decide +kernel
theorem dL_law_432 : decode cL_law 432 = .ok (.aload_n 3, 1) := by decide +kernel
theorem dL_law_433 : decode cL_law 433 = .ok (.iconst 0, 1) := by decide +kernel
theorem dL_law_434 : decode cL_law 434 = .ok (.laload, 1) := by decide +kernel
theorem dL_law_435 : decode cL_law 435 = .ok (.iload 6, 2) := by decide +kernel
theorem dL_law_437 : decode cL_law 437 = .ok (.i2l, 1) := by decide +kernel
theorem dL_law_438 : decode cL_law 438 = .ok (.lcmp, 1) := by decide +kernel
theorem dL_law_439 : decode cL_law 439 = .ok (.ifCond .eq 5, 3) := by decide +kernel
theorem dL_law_442 : decode cL_law 442 = .ok (.iconst 0, 1) := by decide +kernel
theorem dL_law_443 : decode cL_law 443 = .ok (.ireturn, 1) := by decide +kernel
theorem dL_law_444 : decode cL_law 444 = .ok (.goto 1149, 3) := by decide +kernel
theorem dL_law_447 : decode cL_law 447 = .ok (.aload_n 1, 1) := by decide +kernel
theorem dL_law_448 : decode cL_law 448 = .ok (.aload_n 0, 1) := by decide +kernel
theorem dL_law_449 : decode cL_law 449 = .ok (.iload 4, 2) := by decide +kernel
theorem dL_law_451 : decode cL_law 451 = .ok (.iconst 1, 1) := by decide +kernel
theorem dL_law_452 : decode cL_law 452 = .ok (.iadd, 1) := by decide +kernel
theorem dL_law_453 : decode cL_law 453 = .ok (.iaload, 1) := by decide +kernel
theorem dL_law_454 : decode cL_law 454 = .ok (.aload_n 0, 1) := by decide +kernel
theorem dL_law_455 : decode cL_law 455 = .ok (.iload 4, 2) := by decide +kernel
theorem dL_law_457 : decode cL_law 457 = .ok (.iconst 2, 1) := by decide +kernel
theorem dL_law_458 : decode cL_law 458 = .ok (.iadd, 1) := by decide +kernel
theorem dL_law_459 : decode cL_law 459 = .ok (.iaload, 1) := by decide +kernel
theorem dL_law_460 : decode cL_law 460 = .ok (.aload_n 3, 1) := by decide +kernel
theorem dL_law_461 : decode cL_law 461 = .ok (.invokestatic 121, 3) := by decide +kernel
theorem dL_law_464 : decode cL_law 464 = .ok (.istore 5, 2) := by decide +kernel
theorem dL_law_466 : decode cL_law 466 = .ok (.aload_n 2, 1) := by decide +kernel
theorem dL_law_467 : decode cL_law 467 = .ok (.aload_n 0, 1) := by decide +kernel
theorem dL_law_468 : decode cL_law 468 = .ok (.iload 4, 2) := by decide +kernel
theorem dL_law_470 : decode cL_law 470 = .ok (.iconst 1, 1) := by decide +kernel
theorem dL_law_471 : decode cL_law 471 = .ok (.iadd, 1) := by decide +kernel
theorem dL_law_472 : decode cL_law 472 = .ok (.iaload, 1) := by decide +kernel
theorem dL_law_473 : decode cL_law 473 = .ok (.aload_n 0, 1) := by decide +kernel
theorem dL_law_474 : decode cL_law 474 = .ok (.iload 4, 2) := by decide +kernel
theorem dL_law_476 : decode cL_law 476 = .ok (.iconst 2, 1) := by decide +kernel
theorem dL_law_477 : decode cL_law 477 = .ok (.iadd, 1) := by decide +kernel
theorem dL_law_478 : decode cL_law 478 = .ok (.iaload, 1) := by decide +kernel
theorem dL_law_479 : decode cL_law 479 = .ok (.invokevirtual 123, 3) := by decide +kernel
theorem dL_law_482 : decode cL_law 482 = .ok (.istore 6, 2) := by decide +kernel
theorem dL_law_484 : decode cL_law 484 = .ok (.aload_n 2, 1) := by decide +kernel
theorem dL_law_485 : decode cL_law 485 = .ok (.invokevirtual 96, 3) := by decide +kernel
theorem dL_law_488 : decode cL_law 488 = .ok (.iload 5, 2) := by decide +kernel
theorem dL_law_490 : decode cL_law 490 = .ok (.if_icmp .eq 5, 3) := by decide +kernel
theorem dL_law_493 : decode cL_law 493 = .ok (.iconst 0, 1) := by decide +kernel
theorem dL_law_494 : decode cL_law 494 = .ok (.ireturn, 1) := by decide +kernel
theorem dL_law_495 : decode cL_law 495 = .ok (.iload 5, 2) := by decide +kernel
theorem dL_law_497 : decode cL_law 497 = .ok (.ifCond .ne 15, 3) := by decide +kernel
theorem dL_law_500 : decode cL_law 500 = .ok (.aload_n 3, 1) := by decide +kernel
theorem dL_law_501 : decode cL_law 501 = .ok (.iconst 0, 1) := by decide +kernel
theorem dL_law_502 : decode cL_law 502 = .ok (.laload, 1) := by decide +kernel
theorem dL_law_503 : decode cL_law 503 = .ok (.iload 6, 2) := by decide +kernel
theorem dL_law_505 : decode cL_law 505 = .ok (.i2l, 1) := by decide +kernel
theorem dL_law_506 : decode cL_law 506 = .ok (.lcmp, 1) := by decide +kernel
theorem dL_law_507 : decode cL_law 507 = .ok (.ifCond .eq 5, 3) := by decide +kernel
theorem dL_law_510 : decode cL_law 510 = .ok (.iconst 0, 1) := by decide +kernel
theorem dL_law_511 : decode cL_law 511 = .ok (.ireturn, 1) := by decide +kernel
theorem dL_law_512 : decode cL_law 512 = .ok (.goto 1081, 3) := by decide +kernel
theorem dL_law_515 : decode cL_law 515 = .ok (.aload_n 1, 1) := by decide +kernel
theorem dL_law_516 : decode cL_law 516 = .ok (.aload_n 0, 1) := by decide +kernel
theorem dL_law_517 : decode cL_law 517 = .ok (.iload 4, 2) := by decide +kernel
theorem dL_law_519 : decode cL_law 519 = .ok (.iconst 1, 1) := by decide +kernel
theorem dL_law_520 : decode cL_law 520 = .ok (.iadd, 1) := by decide +kernel
theorem dL_law_521 : decode cL_law 521 = .ok (.iaload, 1) := by decide +kernel
theorem dL_law_522 : decode cL_law 522 = .ok (.aload_n 3, 1) := by decide +kernel
theorem dL_law_523 : decode cL_law 523 = .ok (.invokestatic 124, 3) := by decide +kernel
theorem dL_law_526 : decode cL_law 526 = .ok (.istore 5, 2) := by decide +kernel
theorem dL_law_528 : decode cL_law 528 = .ok (.aload_n 2, 1) := by decide +kernel
theorem dL_law_529 : decode cL_law 529 = .ok (.aload_n 0, 1) := by decide +kernel
theorem dL_law_530 : decode cL_law 530 = .ok (.iload 4, 2) := by decide +kernel
theorem dL_law_532 : decode cL_law 532 = .ok (.iconst 1, 1) := by decide +kernel
theorem dL_law_533 : decode cL_law 533 = .ok (.iadd, 1) := by decide +kernel
theorem dL_law_534 : decode cL_law 534 = .ok (.iaload, 1) := by decide +kernel
theorem dL_law_535 : decode cL_law 535 = .ok (.invokevirtual 126, 3) := by decide +kernel
theorem dL_law_538 : decode cL_law 538 = .ok (.istore 6, 2) := by decide +kernel
theorem dL_law_540 : decode cL_law 540 = .ok (.aload_n 2, 1) := by decide +kernel
theorem dL_law_541 : decode cL_law 541 = .ok (.invokevirtual 96, 3) := by decide +kernel
theorem dL_law_544 : decode cL_law 544 = .ok (.iload 5, 2) := by decide +kernel
theorem dL_law_546 : decode cL_law 546 = .ok (.if_icmp .eq 5, 3) := by decide +kernel
theorem dL_law_549 : decode cL_law 549 = .ok (.iconst 0, 1) := by decide +kernel
theorem dL_law_550 : decode cL_law 550 = .ok (.ireturn, 1) := by decide +kernel
theorem dL_law_551 : decode cL_law 551 = .ok (.iload 5, 2) := by decide +kernel
theorem dL_law_553 : decode cL_law 553 = .ok (.ifCond .ne 15, 3) := by decide +kernel
theorem dL_law_556 : decode cL_law 556 = .ok (.aload_n 3, 1) := by decide +kernel
theorem dL_law_557 : decode cL_law 557 = .ok (.iconst 0, 1) := by decide +kernel
theorem dL_law_558 : decode cL_law 558 = .ok (.laload, 1) := by decide +kernel
theorem dL_law_559 : decode cL_law 559 = .ok (.iload 6, 2) := by decide +kernel
theorem dL_law_561 : decode cL_law 561 = .ok (.i2l, 1) := by decide +kernel
theorem dL_law_562 : decode cL_law 562 = .ok (.lcmp, 1) := by decide +kernel
theorem dL_law_563 : decode cL_law 563 = .ok (.ifCond .eq 5, 3) := by decide +kernel
theorem dL_law_566 : decode cL_law 566 = .ok (.iconst 0, 1) := by decide +kernel
theorem dL_law_567 : decode cL_law 567 = .ok (.ireturn, 1) := by decide +kernel
theorem dL_law_568 : decode cL_law 568 = .ok (.goto 1025, 3) := by decide +kernel
theorem dL_law_571 : decode cL_law 571 = .ok (.aload_n 1, 1) := by decide +kernel
theorem dL_law_572 : decode cL_law 572 = .ok (.aload_n 0, 1) := by decide +kernel
theorem dL_law_573 : decode cL_law 573 = .ok (.iload 4, 2) := by decide +kernel
theorem dL_law_575 : decode cL_law 575 = .ok (.iconst 1, 1) := by decide +kernel
theorem dL_law_576 : decode cL_law 576 = .ok (.iadd, 1) := by decide +kernel
theorem dL_law_577 : decode cL_law 577 = .ok (.iaload, 1) := by decide +kernel
theorem dL_law_578 : decode cL_law 578 = .ok (.aload_n 0, 1) := by decide +kernel
theorem dL_law_579 : decode cL_law 579 = .ok (.iload 4, 2) := by decide +kernel
theorem dL_law_581 : decode cL_law 581 = .ok (.iconst 2, 1) := by decide +kernel
theorem dL_law_582 : decode cL_law 582 = .ok (.iadd, 1) := by decide +kernel
theorem dL_law_583 : decode cL_law 583 = .ok (.iaload, 1) := by decide +kernel
theorem dL_law_584 : decode cL_law 584 = .ok (.aload_n 3, 1) := by decide +kernel
theorem dL_law_585 : decode cL_law 585 = .ok (.invokestatic 127, 3) := by decide +kernel
theorem dL_law_588 : decode cL_law 588 = .ok (.istore 5, 2) := by decide +kernel
theorem dL_law_590 : decode cL_law 590 = .ok (.aload_n 2, 1) := by decide +kernel
theorem dL_law_591 : decode cL_law 591 = .ok (.aload_n 0, 1) := by decide +kernel
theorem dL_law_592 : decode cL_law 592 = .ok (.iload 4, 2) := by decide +kernel
theorem dL_law_594 : decode cL_law 594 = .ok (.iconst 1, 1) := by decide +kernel
theorem dL_law_595 : decode cL_law 595 = .ok (.iadd, 1) := by decide +kernel
theorem dL_law_596 : decode cL_law 596 = .ok (.iaload, 1) := by decide +kernel
theorem dL_law_597 : decode cL_law 597 = .ok (.aload_n 0, 1) := by decide +kernel
theorem dL_law_598 : decode cL_law 598 = .ok (.iload 4, 2) := by decide +kernel
theorem dL_law_600 : decode cL_law 600 = .ok (.iconst 2, 1) := by decide +kernel
theorem dL_law_601 : decode cL_law 601 = .ok (.iadd, 1) := by decide +kernel
theorem dL_law_602 : decode cL_law 602 = .ok (.iaload, 1) := by decide +kernel
theorem dL_law_603 : decode cL_law 603 = .ok (.invokevirtual 129, 3) := by decide +kernel
theorem dL_law_606 : decode cL_law 606 = .ok (.istore 6, 2) := by decide +kernel
theorem dL_law_608 : decode cL_law 608 = .ok (.aload_n 2, 1) := by decide +kernel
theorem dL_law_609 : decode cL_law 609 = .ok (.invokevirtual 96, 3) := by decide +kernel
theorem dL_law_612 : decode cL_law 612 = .ok (.iload 5, 2) := by decide +kernel
theorem dL_law_614 : decode cL_law 614 = .ok (.if_icmp .eq 5, 3) := by decide +kernel
theorem dL_law_617 : decode cL_law 617 = .ok (.iconst 0, 1) := by decide +kernel
theorem dL_law_618 : decode cL_law 618 = .ok (.ireturn, 1) := by decide +kernel
theorem dL_law_619 : decode cL_law 619 = .ok (.iload 5, 2) := by decide +kernel
theorem dL_law_621 : decode cL_law 621 = .ok (.ifCond .ne 15, 3) := by decide +kernel
theorem dL_law_624 : decode cL_law 624 = .ok (.aload_n 3, 1) := by decide +kernel
theorem dL_law_625 : decode cL_law 625 = .ok (.iconst 0, 1) := by decide +kernel
theorem dL_law_626 : decode cL_law 626 = .ok (.laload, 1) := by decide +kernel
theorem dL_law_627 : decode cL_law 627 = .ok (.iload 6, 2) := by decide +kernel
theorem dL_law_629 : decode cL_law 629 = .ok (.i2l, 1) := by decide +kernel
theorem dL_law_630 : decode cL_law 630 = .ok (.lcmp, 1) := by decide +kernel
theorem dL_law_631 : decode cL_law 631 = .ok (.ifCond .eq 5, 3) := by decide +kernel
theorem dL_law_634 : decode cL_law 634 = .ok (.iconst 0, 1) := by decide +kernel
theorem dL_law_635 : decode cL_law 635 = .ok (.ireturn, 1) := by decide +kernel
theorem dL_law_636 : decode cL_law 636 = .ok (.goto 957, 3) := by decide +kernel
theorem dL_law_639 : decode cL_law 639 = .ok (.aload_n 1, 1) := by decide +kernel
theorem dL_law_640 : decode cL_law 640 = .ok (.aload_n 3, 1) := by decide +kernel
theorem dL_law_641 : decode cL_law 641 = .ok (.invokestatic 130, 3) := by decide +kernel
theorem dL_law_644 : decode cL_law 644 = .ok (.istore 5, 2) := by decide +kernel
theorem dL_law_646 : decode cL_law 646 = .ok (.aload_n 2, 1) := by decide +kernel
theorem dL_law_647 : decode cL_law 647 = .ok (.invokevirtual 133, 3) := by decide +kernel
theorem dL_law_650 : decode cL_law 650 = .ok (.istore 6, 2) := by decide +kernel
theorem dL_law_652 : decode cL_law 652 = .ok (.aload_n 2, 1) := by decide +kernel
theorem dL_law_653 : decode cL_law 653 = .ok (.invokevirtual 96, 3) := by decide +kernel
theorem dL_law_656 : decode cL_law 656 = .ok (.iload 5, 2) := by decide +kernel
theorem dL_law_658 : decode cL_law 658 = .ok (.if_icmp .eq 5, 3) := by decide +kernel
theorem dL_law_661 : decode cL_law 661 = .ok (.iconst 0, 1) := by decide +kernel
theorem dL_law_662 : decode cL_law 662 = .ok (.ireturn, 1) := by decide +kernel
theorem dL_law_663 : decode cL_law 663 = .ok (.iload 5, 2) := by decide +kernel
theorem dL_law_665 : decode cL_law 665 = .ok (.ifCond .ne 15, 3) := by decide +kernel
theorem dL_law_668 : decode cL_law 668 = .ok (.aload_n 3, 1) := by decide +kernel
theorem dL_law_669 : decode cL_law 669 = .ok (.iconst 0, 1) := by decide +kernel
theorem dL_law_670 : decode cL_law 670 = .ok (.laload, 1) := by decide +kernel
theorem dL_law_671 : decode cL_law 671 = .ok (.iload 6, 2) := by decide +kernel
theorem dL_law_673 : decode cL_law 673 = .ok (.i2l, 1) := by decide +kernel
theorem dL_law_674 : decode cL_law 674 = .ok (.lcmp, 1) := by decide +kernel
theorem dL_law_675 : decode cL_law 675 = .ok (.ifCond .eq 5, 3) := by decide +kernel
theorem dL_law_678 : decode cL_law 678 = .ok (.iconst 0, 1) := by decide +kernel
theorem dL_law_679 : decode cL_law 679 = .ok (.ireturn, 1) := by decide +kernel
theorem dL_law_680 : decode cL_law 680 = .ok (.goto 913, 3) := by decide +kernel
theorem dL_law_683 : decode cL_law 683 = .ok (.aload_n 1, 1) := by decide +kernel
theorem dL_law_684 : decode cL_law 684 = .ok (.aload_n 0, 1) := by decide +kernel
theorem dL_law_685 : decode cL_law 685 = .ok (.iload 4, 2) := by decide +kernel
theorem dL_law_687 : decode cL_law 687 = .ok (.iconst 1, 1) := by decide +kernel
theorem dL_law_688 : decode cL_law 688 = .ok (.iadd, 1) := by decide +kernel
theorem dL_law_689 : decode cL_law 689 = .ok (.iaload, 1) := by decide +kernel
theorem dL_law_690 : decode cL_law 690 = .ok (.aload_n 3, 1) := by decide +kernel
theorem dL_law_691 : decode cL_law 691 = .ok (.invokestatic 134, 3) := by decide +kernel
theorem dL_law_694 : decode cL_law 694 = .ok (.istore 5, 2) := by decide +kernel
theorem dL_law_696 : decode cL_law 696 = .ok (.aload_n 2, 1) := by decide +kernel
theorem dL_law_697 : decode cL_law 697 = .ok (.aload_n 0, 1) := by decide +kernel
theorem dL_law_698 : decode cL_law 698 = .ok (.iload 4, 2) := by decide +kernel
theorem dL_law_700 : decode cL_law 700 = .ok (.iconst 1, 1) := by decide +kernel
theorem dL_law_701 : decode cL_law 701 = .ok (.iadd, 1) := by decide +kernel
theorem dL_law_702 : decode cL_law 702 = .ok (.iaload, 1) := by decide +kernel
theorem dL_law_703 : decode cL_law 703 = .ok (.invokevirtual 136, 3) := by decide +kernel
theorem dL_law_706 : decode cL_law 706 = .ok (.istore 6, 2) := by decide +kernel
theorem dL_law_708 : decode cL_law 708 = .ok (.aload_n 2, 1) := by decide +kernel
theorem dL_law_709 : decode cL_law 709 = .ok (.invokevirtual 96, 3) := by decide +kernel
theorem dL_law_712 : decode cL_law 712 = .ok (.iload 5, 2) := by decide +kernel
theorem dL_law_714 : decode cL_law 714 = .ok (.if_icmp .eq 5, 3) := by decide +kernel
theorem dL_law_717 : decode cL_law 717 = .ok (.iconst 0, 1) := by decide +kernel
theorem dL_law_718 : decode cL_law 718 = .ok (.ireturn, 1) := by decide +kernel
theorem dL_law_719 : decode cL_law 719 = .ok (.iload 5, 2) := by decide +kernel
theorem dL_law_721 : decode cL_law 721 = .ok (.ifCond .ne 15, 3) := by decide +kernel
theorem dL_law_724 : decode cL_law 724 = .ok (.aload_n 3, 1) := by decide +kernel
theorem dL_law_725 : decode cL_law 725 = .ok (.iconst 0, 1) := by decide +kernel
theorem dL_law_726 : decode cL_law 726 = .ok (.laload, 1) := by decide +kernel
theorem dL_law_727 : decode cL_law 727 = .ok (.iload 6, 2) := by decide +kernel
theorem dL_law_729 : decode cL_law 729 = .ok (.i2l, 1) := by decide +kernel
theorem dL_law_730 : decode cL_law 730 = .ok (.lcmp, 1) := by decide +kernel
theorem dL_law_731 : decode cL_law 731 = .ok (.ifCond .eq 5, 3) := by decide +kernel
theorem dL_law_734 : decode cL_law 734 = .ok (.iconst 0, 1) := by decide +kernel
theorem dL_law_735 : decode cL_law 735 = .ok (.ireturn, 1) := by decide +kernel
theorem dL_law_736 : decode cL_law 736 = .ok (.goto 857, 3) := by decide +kernel
theorem dL_law_739 : decode cL_law 739 = .ok (.aload_n 1, 1) := by decide +kernel
theorem dL_law_740 : decode cL_law 740 = .ok (.aload_n 0, 1) := by decide +kernel
theorem dL_law_741 : decode cL_law 741 = .ok (.iload 4, 2) := by decide +kernel
theorem dL_law_743 : decode cL_law 743 = .ok (.iconst 1, 1) := by decide +kernel
theorem dL_law_744 : decode cL_law 744 = .ok (.iadd, 1) := by decide +kernel
theorem dL_law_745 : decode cL_law 745 = .ok (.iaload, 1) := by decide +kernel
theorem dL_law_746 : decode cL_law 746 = .ok (.aload_n 0, 1) := by decide +kernel
theorem dL_law_747 : decode cL_law 747 = .ok (.iload 4, 2) := by decide +kernel
theorem dL_law_749 : decode cL_law 749 = .ok (.iconst 2, 1) := by decide +kernel
theorem dL_law_750 : decode cL_law 750 = .ok (.iadd, 1) := by decide +kernel
theorem dL_law_751 : decode cL_law 751 = .ok (.iaload, 1) := by decide +kernel
theorem dL_law_752 : decode cL_law 752 = .ok (.aload_n 3, 1) := by decide +kernel
theorem dL_law_753 : decode cL_law 753 = .ok (.invokestatic 137, 3) := by decide +kernel
theorem dL_law_756 : decode cL_law 756 = .ok (.istore 5, 2) := by decide +kernel
theorem dL_law_758 : decode cL_law 758 = .ok (.aload_n 2, 1) := by decide +kernel
theorem dL_law_759 : decode cL_law 759 = .ok (.aload_n 0, 1) := by decide +kernel
theorem dL_law_760 : decode cL_law 760 = .ok (.iload 4, 2) := by decide +kernel
theorem dL_law_762 : decode cL_law 762 = .ok (.iconst 1, 1) := by decide +kernel
theorem dL_law_763 : decode cL_law 763 = .ok (.iadd, 1) := by decide +kernel
theorem dL_law_764 : decode cL_law 764 = .ok (.iaload, 1) := by decide +kernel
theorem dL_law_765 : decode cL_law 765 = .ok (.aload_n 0, 1) := by decide +kernel
theorem dL_law_766 : decode cL_law 766 = .ok (.iload 4, 2) := by decide +kernel
theorem dL_law_768 : decode cL_law 768 = .ok (.iconst 2, 1) := by decide +kernel
theorem dL_law_769 : decode cL_law 769 = .ok (.iadd, 1) := by decide +kernel
theorem dL_law_770 : decode cL_law 770 = .ok (.iaload, 1) := by decide +kernel
theorem dL_law_771 : decode cL_law 771 = .ok (.invokevirtual 139, 3) := by decide +kernel
theorem dL_law_774 : decode cL_law 774 = .ok (.istore 6, 2) := by decide +kernel
theorem dL_law_776 : decode cL_law 776 = .ok (.aload_n 2, 1) := by decide +kernel
theorem dL_law_777 : decode cL_law 777 = .ok (.invokevirtual 96, 3) := by decide +kernel
theorem dL_law_780 : decode cL_law 780 = .ok (.iload 5, 2) := by decide +kernel
theorem dL_law_782 : decode cL_law 782 = .ok (.if_icmp .eq 5, 3) := by decide +kernel
theorem dL_law_785 : decode cL_law 785 = .ok (.iconst 0, 1) := by decide +kernel
theorem dL_law_786 : decode cL_law 786 = .ok (.ireturn, 1) := by decide +kernel
theorem dL_law_787 : decode cL_law 787 = .ok (.iload 5, 2) := by decide +kernel
theorem dL_law_789 : decode cL_law 789 = .ok (.ifCond .ne 15, 3) := by decide +kernel
theorem dL_law_792 : decode cL_law 792 = .ok (.aload_n 3, 1) := by decide +kernel
theorem dL_law_793 : decode cL_law 793 = .ok (.iconst 0, 1) := by decide +kernel
theorem dL_law_794 : decode cL_law 794 = .ok (.laload, 1) := by decide +kernel
theorem dL_law_795 : decode cL_law 795 = .ok (.iload 6, 2) := by decide +kernel
theorem dL_law_797 : decode cL_law 797 = .ok (.i2l, 1) := by decide +kernel
theorem dL_law_798 : decode cL_law 798 = .ok (.lcmp, 1) := by decide +kernel
theorem dL_law_799 : decode cL_law 799 = .ok (.ifCond .eq 5, 3) := by decide +kernel
theorem dL_law_802 : decode cL_law 802 = .ok (.iconst 0, 1) := by decide +kernel
theorem dL_law_803 : decode cL_law 803 = .ok (.ireturn, 1) := by decide +kernel
theorem dL_law_804 : decode cL_law 804 = .ok (.goto 789, 3) := by decide +kernel
theorem dL_law_807 : decode cL_law 807 = .ok (.aload_n 1, 1) := by decide +kernel
theorem dL_law_808 : decode cL_law 808 = .ok (.aload_n 0, 1) := by decide +kernel
theorem dL_law_809 : decode cL_law 809 = .ok (.iload 4, 2) := by decide +kernel
theorem dL_law_811 : decode cL_law 811 = .ok (.iconst 1, 1) := by decide +kernel
theorem dL_law_812 : decode cL_law 812 = .ok (.iadd, 1) := by decide +kernel
theorem dL_law_813 : decode cL_law 813 = .ok (.iaload, 1) := by decide +kernel
theorem dL_law_814 : decode cL_law 814 = .ok (.aload_n 0, 1) := by decide +kernel
theorem dL_law_815 : decode cL_law 815 = .ok (.iload 4, 2) := by decide +kernel
theorem dL_law_817 : decode cL_law 817 = .ok (.iconst 2, 1) := by decide +kernel
theorem dL_law_818 : decode cL_law 818 = .ok (.iadd, 1) := by decide +kernel
theorem dL_law_819 : decode cL_law 819 = .ok (.iaload, 1) := by decide +kernel
theorem dL_law_820 : decode cL_law 820 = .ok (.aload_n 3, 1) := by decide +kernel
theorem dL_law_821 : decode cL_law 821 = .ok (.invokestatic 140, 3) := by decide +kernel
theorem dL_law_824 : decode cL_law 824 = .ok (.istore 5, 2) := by decide +kernel
theorem dL_law_826 : decode cL_law 826 = .ok (.aload_n 2, 1) := by decide +kernel
theorem dL_law_827 : decode cL_law 827 = .ok (.aload_n 0, 1) := by decide +kernel
theorem dL_law_828 : decode cL_law 828 = .ok (.iload 4, 2) := by decide +kernel
theorem dL_law_830 : decode cL_law 830 = .ok (.iconst 1, 1) := by decide +kernel
theorem dL_law_831 : decode cL_law 831 = .ok (.iadd, 1) := by decide +kernel
theorem dL_law_832 : decode cL_law 832 = .ok (.iaload, 1) := by decide +kernel
theorem dL_law_833 : decode cL_law 833 = .ok (.aload_n 0, 1) := by decide +kernel
theorem dL_law_834 : decode cL_law 834 = .ok (.iload 4, 2) := by decide +kernel
theorem dL_law_836 : decode cL_law 836 = .ok (.iconst 2, 1) := by decide +kernel
theorem dL_law_837 : decode cL_law 837 = .ok (.iadd, 1) := by decide +kernel
theorem dL_law_838 : decode cL_law 838 = .ok (.iaload, 1) := by decide +kernel
theorem dL_law_839 : decode cL_law 839 = .ok (.invokevirtual 142, 3) := by decide +kernel
theorem dL_law_842 : decode cL_law 842 = .ok (.istore 6, 2) := by decide +kernel
theorem dL_law_844 : decode cL_law 844 = .ok (.aload_n 2, 1) := by decide +kernel
theorem dL_law_845 : decode cL_law 845 = .ok (.invokevirtual 96, 3) := by decide +kernel
theorem dL_law_848 : decode cL_law 848 = .ok (.iload 5, 2) := by decide +kernel
theorem dL_law_850 : decode cL_law 850 = .ok (.if_icmp .eq 5, 3) := by decide +kernel
theorem dL_law_853 : decode cL_law 853 = .ok (.iconst 0, 1) := by decide +kernel
theorem dL_law_854 : decode cL_law 854 = .ok (.ireturn, 1) := by decide +kernel
theorem dL_law_855 : decode cL_law 855 = .ok (.iload 5, 2) := by decide +kernel
theorem dL_law_857 : decode cL_law 857 = .ok (.ifCond .ne 15, 3) := by decide +kernel
theorem dL_law_860 : decode cL_law 860 = .ok (.aload_n 3, 1) := by decide +kernel
theorem dL_law_861 : decode cL_law 861 = .ok (.iconst 0, 1) := by decide +kernel
theorem dL_law_862 : decode cL_law 862 = .ok (.laload, 1) := by decide +kernel
theorem dL_law_863 : decode cL_law 863 = .ok (.iload 6, 2) := by decide +kernel
theorem dL_law_865 : decode cL_law 865 = .ok (.i2l, 1) := by decide +kernel
theorem dL_law_866 : decode cL_law 866 = .ok (.lcmp, 1) := by decide +kernel
theorem dL_law_867 : decode cL_law 867 = .ok (.ifCond .eq 5, 3) := by decide +kernel
theorem dL_law_870 : decode cL_law 870 = .ok (.iconst 0, 1) := by decide +kernel
theorem dL_law_871 : decode cL_law 871 = .ok (.ireturn, 1) := by decide +kernel
theorem dL_law_872 : decode cL_law 872 = .ok (.goto 721, 3) := by decide +kernel
theorem dL_law_875 : decode cL_law 875 = .ok (.aload_n 1, 1) := by decide +kernel
theorem dL_law_876 : decode cL_law 876 = .ok (.aload_n 0, 1) := by decide +kernel
theorem dL_law_877 : decode cL_law 877 = .ok (.iload 4, 2) := by decide +kernel
theorem dL_law_879 : decode cL_law 879 = .ok (.iconst 1, 1) := by decide +kernel
theorem dL_law_880 : decode cL_law 880 = .ok (.iadd, 1) := by decide +kernel
theorem dL_law_881 : decode cL_law 881 = .ok (.iaload, 1) := by decide +kernel
theorem dL_law_882 : decode cL_law 882 = .ok (.aload_n 0, 1) := by decide +kernel
theorem dL_law_883 : decode cL_law 883 = .ok (.iload 4, 2) := by decide +kernel
theorem dL_law_885 : decode cL_law 885 = .ok (.iconst 2, 1) := by decide +kernel
theorem dL_law_886 : decode cL_law 886 = .ok (.iadd, 1) := by decide +kernel
theorem dL_law_887 : decode cL_law 887 = .ok (.iaload, 1) := by decide +kernel
theorem dL_law_888 : decode cL_law 888 = .ok (.aload_n 3, 1) := by decide +kernel
theorem dL_law_889 : decode cL_law 889 = .ok (.invokestatic 143, 3) := by decide +kernel
theorem dL_law_892 : decode cL_law 892 = .ok (.istore 5, 2) := by decide +kernel
theorem dL_law_894 : decode cL_law 894 = .ok (.aload_n 2, 1) := by decide +kernel
theorem dL_law_895 : decode cL_law 895 = .ok (.aload_n 0, 1) := by decide +kernel
theorem dL_law_896 : decode cL_law 896 = .ok (.iload 4, 2) := by decide +kernel
theorem dL_law_898 : decode cL_law 898 = .ok (.iconst 1, 1) := by decide +kernel
theorem dL_law_899 : decode cL_law 899 = .ok (.iadd, 1) := by decide +kernel
theorem dL_law_900 : decode cL_law 900 = .ok (.iaload, 1) := by decide +kernel
theorem dL_law_901 : decode cL_law 901 = .ok (.aload_n 0, 1) := by decide +kernel
theorem dL_law_902 : decode cL_law 902 = .ok (.iload 4, 2) := by decide +kernel
theorem dL_law_904 : decode cL_law 904 = .ok (.iconst 2, 1) := by decide +kernel
theorem dL_law_905 : decode cL_law 905 = .ok (.iadd, 1) := by decide +kernel
theorem dL_law_906 : decode cL_law 906 = .ok (.iaload, 1) := by decide +kernel
theorem dL_law_907 : decode cL_law 907 = .ok (.invokevirtual 145, 3) := by decide +kernel
theorem dL_law_910 : decode cL_law 910 = .ok (.istore 6, 2) := by decide +kernel
theorem dL_law_912 : decode cL_law 912 = .ok (.aload_n 2, 1) := by decide +kernel
theorem dL_law_913 : decode cL_law 913 = .ok (.invokevirtual 96, 3) := by decide +kernel
theorem dL_law_916 : decode cL_law 916 = .ok (.iload 5, 2) := by decide +kernel
theorem dL_law_918 : decode cL_law 918 = .ok (.if_icmp .eq 5, 3) := by decide +kernel
theorem dL_law_921 : decode cL_law 921 = .ok (.iconst 0, 1) := by decide +kernel
theorem dL_law_922 : decode cL_law 922 = .ok (.ireturn, 1) := by decide +kernel
theorem dL_law_923 : decode cL_law 923 = .ok (.iload 5, 2) := by decide +kernel
theorem dL_law_925 : decode cL_law 925 = .ok (.ifCond .ne 15, 3) := by decide +kernel
theorem dL_law_928 : decode cL_law 928 = .ok (.aload_n 3, 1) := by decide +kernel
theorem dL_law_929 : decode cL_law 929 = .ok (.iconst 0, 1) := by decide +kernel
theorem dL_law_930 : decode cL_law 930 = .ok (.laload, 1) := by decide +kernel
theorem dL_law_931 : decode cL_law 931 = .ok (.iload 6, 2) := by decide +kernel
theorem dL_law_933 : decode cL_law 933 = .ok (.i2l, 1) := by decide +kernel
theorem dL_law_934 : decode cL_law 934 = .ok (.lcmp, 1) := by decide +kernel
theorem dL_law_935 : decode cL_law 935 = .ok (.ifCond .eq 5, 3) := by decide +kernel
theorem dL_law_938 : decode cL_law 938 = .ok (.iconst 0, 1) := by decide +kernel
theorem dL_law_939 : decode cL_law 939 = .ok (.ireturn, 1) := by decide +kernel
theorem dL_law_940 : decode cL_law 940 = .ok (.goto 653, 3) := by decide +kernel
theorem dL_law_943 : decode cL_law 943 = .ok (.aload_n 1, 1) := by decide +kernel
theorem dL_law_944 : decode cL_law 944 = .ok (.aload_n 3, 1) := by decide +kernel
theorem dL_law_945 : decode cL_law 945 = .ok (.invokestatic 146, 3) := by decide +kernel
theorem dL_law_948 : decode cL_law 948 = .ok (.istore 5, 2) := by decide +kernel
theorem dL_law_950 : decode cL_law 950 = .ok (.aload_n 2, 1) := by decide +kernel
theorem dL_law_951 : decode cL_law 951 = .ok (.invokevirtual 148, 3) := by decide +kernel
theorem dL_law_954 : decode cL_law 954 = .ok (.istore 6, 2) := by decide +kernel
theorem dL_law_956 : decode cL_law 956 = .ok (.aload_n 2, 1) := by decide +kernel
theorem dL_law_957 : decode cL_law 957 = .ok (.invokevirtual 96, 3) := by decide +kernel
theorem dL_law_960 : decode cL_law 960 = .ok (.iload 5, 2) := by decide +kernel
theorem dL_law_962 : decode cL_law 962 = .ok (.if_icmp .eq 5, 3) := by decide +kernel
theorem dL_law_965 : decode cL_law 965 = .ok (.iconst 0, 1) := by decide +kernel
theorem dL_law_966 : decode cL_law 966 = .ok (.ireturn, 1) := by decide +kernel
theorem dL_law_967 : decode cL_law 967 = .ok (.iload 5, 2) := by decide +kernel
theorem dL_law_969 : decode cL_law 969 = .ok (.ifCond .ne 15, 3) := by decide +kernel
theorem dL_law_972 : decode cL_law 972 = .ok (.aload_n 3, 1) := by decide +kernel
theorem dL_law_973 : decode cL_law 973 = .ok (.iconst 0, 1) := by decide +kernel
theorem dL_law_974 : decode cL_law 974 = .ok (.laload, 1) := by decide +kernel
theorem dL_law_975 : decode cL_law 975 = .ok (.iload 6, 2) := by decide +kernel
theorem dL_law_977 : decode cL_law 977 = .ok (.i2l, 1) := by decide +kernel
theorem dL_law_978 : decode cL_law 978 = .ok (.lcmp, 1) := by decide +kernel
theorem dL_law_979 : decode cL_law 979 = .ok (.ifCond .eq 5, 3) := by decide +kernel
theorem dL_law_982 : decode cL_law 982 = .ok (.iconst 0, 1) := by decide +kernel
theorem dL_law_983 : decode cL_law 983 = .ok (.ireturn, 1) := by decide +kernel
theorem dL_law_984 : decode cL_law 984 = .ok (.goto 609, 3) := by decide +kernel
theorem dL_law_987 : decode cL_law 987 = .ok (.aload_n 1, 1) := by decide +kernel
theorem dL_law_988 : decode cL_law 988 = .ok (.aload_n 3, 1) := by decide +kernel
theorem dL_law_989 : decode cL_law 989 = .ok (.invokestatic 149, 3) := by decide +kernel
theorem dL_law_992 : decode cL_law 992 = .ok (.istore 5, 2) := by decide +kernel
theorem dL_law_994 : decode cL_law 994 = .ok (.aload_n 2, 1) := by decide +kernel
theorem dL_law_995 : decode cL_law 995 = .ok (.invokevirtual 151, 3) := by decide +kernel
theorem dL_law_998 : decode cL_law 998 = .ok (.istore 6, 2) := by decide +kernel
theorem dL_law_1000 : decode cL_law 1000 = .ok (.aload_n 2, 1) := by decide +kernel
theorem dL_law_1001 : decode cL_law 1001 = .ok (.invokevirtual 96, 3) := by decide +kernel
theorem dL_law_1004 : decode cL_law 1004 = .ok (.iload 5, 2) := by decide +kernel
theorem dL_law_1006 : decode cL_law 1006 = .ok (.if_icmp .eq 5, 3) := by decide +kernel
theorem dL_law_1009 : decode cL_law 1009 = .ok (.iconst 0, 1) := by decide +kernel
theorem dL_law_1010 : decode cL_law 1010 = .ok (.ireturn, 1) := by decide +kernel
theorem dL_law_1011 : decode cL_law 1011 = .ok (.iload 5, 2) := by decide +kernel
theorem dL_law_1013 : decode cL_law 1013 = .ok (.ifCond .ne 15, 3) := by decide +kernel
theorem dL_law_1016 : decode cL_law 1016 = .ok (.aload_n 3, 1) := by decide +kernel
theorem dL_law_1017 : decode cL_law 1017 = .ok (.iconst 0, 1) := by decide +kernel
theorem dL_law_1018 : decode cL_law 1018 = .ok (.laload, 1) := by decide +kernel
theorem dL_law_1019 : decode cL_law 1019 = .ok (.iload 6, 2) := by decide +kernel
theorem dL_law_1021 : decode cL_law 1021 = .ok (.i2l, 1) := by decide +kernel
theorem dL_law_1022 : decode cL_law 1022 = .ok (.lcmp, 1) := by decide +kernel
theorem dL_law_1023 : decode cL_law 1023 = .ok (.ifCond .eq 5, 3) := by decide +kernel
theorem dL_law_1026 : decode cL_law 1026 = .ok (.iconst 0, 1) := by decide +kernel
theorem dL_law_1027 : decode cL_law 1027 = .ok (.ireturn, 1) := by decide +kernel
theorem dL_law_1028 : decode cL_law 1028 = .ok (.goto 565, 3) := by decide +kernel
theorem dL_law_1031 : decode cL_law 1031 = .ok (.aload_n 1, 1) := by decide +kernel
theorem dL_law_1032 : decode cL_law 1032 = .ok (.aload_n 0, 1) := by decide +kernel
theorem dL_law_1033 : decode cL_law 1033 = .ok (.iload 4, 2) := by decide +kernel
theorem dL_law_1035 : decode cL_law 1035 = .ok (.iconst 1, 1) := by decide +kernel
theorem dL_law_1036 : decode cL_law 1036 = .ok (.iadd, 1) := by decide +kernel
theorem dL_law_1037 : decode cL_law 1037 = .ok (.iaload, 1) := by decide +kernel
theorem dL_law_1038 : decode cL_law 1038 = .ok (.aload_n 3, 1) := by decide +kernel
theorem dL_law_1039 : decode cL_law 1039 = .ok (.invokestatic 152, 3) := by decide +kernel
theorem dL_law_1042 : decode cL_law 1042 = .ok (.istore 5, 2) := by decide +kernel
theorem dL_law_1044 : decode cL_law 1044 = .ok (.aload_n 2, 1) := by decide +kernel
theorem dL_law_1045 : decode cL_law 1045 = .ok (.aload_n 0, 1) := by decide +kernel
theorem dL_law_1046 : decode cL_law 1046 = .ok (.iload 4, 2) := by decide +kernel
theorem dL_law_1048 : decode cL_law 1048 = .ok (.iconst 1, 1) := by decide +kernel
theorem dL_law_1049 : decode cL_law 1049 = .ok (.iadd, 1) := by decide +kernel
theorem dL_law_1050 : decode cL_law 1050 = .ok (.iaload, 1) := by decide +kernel
theorem dL_law_1051 : decode cL_law 1051 = .ok (.invokevirtual 154, 3) := by decide +kernel
theorem dL_law_1054 : decode cL_law 1054 = .ok (.istore 6, 2) := by decide +kernel
theorem dL_law_1056 : decode cL_law 1056 = .ok (.aload_n 2, 1) := by decide +kernel
theorem dL_law_1057 : decode cL_law 1057 = .ok (.invokevirtual 96, 3) := by decide +kernel
theorem dL_law_1060 : decode cL_law 1060 = .ok (.iload 5, 2) := by decide +kernel
theorem dL_law_1062 : decode cL_law 1062 = .ok (.if_icmp .eq 5, 3) := by decide +kernel
theorem dL_law_1065 : decode cL_law 1065 = .ok (.iconst 0, 1) := by decide +kernel
theorem dL_law_1066 : decode cL_law 1066 = .ok (.ireturn, 1) := by decide +kernel
theorem dL_law_1067 : decode cL_law 1067 = .ok (.iload 5, 2) := by decide +kernel
theorem dL_law_1069 : decode cL_law 1069 = .ok (.ifCond .ne 15, 3) := by decide +kernel
theorem dL_law_1072 : decode cL_law 1072 = .ok (.aload_n 3, 1) := by decide +kernel
theorem dL_law_1073 : decode cL_law 1073 = .ok (.iconst 0, 1) := by decide +kernel
theorem dL_law_1074 : decode cL_law 1074 = .ok (.laload, 1) := by decide +kernel
theorem dL_law_1075 : decode cL_law 1075 = .ok (.iload 6, 2) := by decide +kernel
theorem dL_law_1077 : decode cL_law 1077 = .ok (.i2l, 1) := by decide +kernel
theorem dL_law_1078 : decode cL_law 1078 = .ok (.lcmp, 1) := by decide +kernel
theorem dL_law_1079 : decode cL_law 1079 = .ok (.ifCond .eq 5, 3) := by decide +kernel
theorem dL_law_1082 : decode cL_law 1082 = .ok (.iconst 0, 1) := by decide +kernel
theorem dL_law_1083 : decode cL_law 1083 = .ok (.ireturn, 1) := by decide +kernel
theorem dL_law_1084 : decode cL_law 1084 = .ok (.goto 509, 3) := by decide +kernel
theorem dL_law_1087 : decode cL_law 1087 = .ok (.aload_n 1, 1) := by decide +kernel
theorem dL_law_1088 : decode cL_law 1088 = .ok (.invokevirtual 155, 3) := by decide +kernel
theorem dL_law_1091 : decode cL_law 1091 = .ok (.aload_n 2, 1) := by decide +kernel
theorem dL_law_1092 : decode cL_law 1092 = .ok (.invokevirtual 158, 3) := by decide +kernel
theorem dL_law_1095 : decode cL_law 1095 = .ok (.if_icmp .eq 498, 3) := by decide +kernel
theorem dL_law_1098 : decode cL_law 1098 = .ok (.iconst 0, 1) := by decide +kernel
theorem dL_law_1099 : decode cL_law 1099 = .ok (.ireturn, 1) := by decide +kernel
theorem dL_law_1100 : decode cL_law 1100 = .ok (.aload_n 1, 1) := by decide +kernel
theorem dL_law_1101 : decode cL_law 1101 = .ok (.invokevirtual 159, 3) := by decide +kernel
theorem dL_law_1104 : decode cL_law 1104 = .ok (.aload_n 2, 1) := by decide +kernel
theorem dL_law_1105 : decode cL_law 1105 = .ok (.invokevirtual 162, 3) := by decide +kernel
theorem dL_law_1108 : decode cL_law 1108 = .ok (.if_icmp .eq 485, 3) := by decide +kernel
theorem dL_law_1111 : decode cL_law 1111 = .ok (.iconst 0, 1) := by decide +kernel
theorem dL_law_1112 : decode cL_law 1112 = .ok (.ireturn, 1) := by decide +kernel
theorem dL_law_1113 : decode cL_law 1113 = .ok (.aload_n 1, 1) := by decide +kernel
theorem dL_law_1114 : decode cL_law 1114 = .ok (.aload_n 0, 1) := by decide +kernel
theorem dL_law_1115 : decode cL_law 1115 = .ok (.iload 4, 2) := by decide +kernel
theorem dL_law_1117 : decode cL_law 1117 = .ok (.iconst 1, 1) := by decide +kernel
theorem dL_law_1118 : decode cL_law 1118 = .ok (.iadd, 1) := by decide +kernel
theorem dL_law_1119 : decode cL_law 1119 = .ok (.iaload, 1) := by decide +kernel
theorem dL_law_1120 : decode cL_law 1120 = .ok (.aload_n 3, 1) := by decide +kernel
theorem dL_law_1121 : decode cL_law 1121 = .ok (.invokestatic 163, 3) := by decide +kernel
theorem dL_law_1124 : decode cL_law 1124 = .ok (.istore 5, 2) := by decide +kernel
theorem dL_law_1126 : decode cL_law 1126 = .ok (.aload_n 2, 1) := by decide +kernel
theorem dL_law_1127 : decode cL_law 1127 = .ok (.aload_n 0, 1) := by decide +kernel
theorem dL_law_1128 : decode cL_law 1128 = .ok (.iload 4, 2) := by decide +kernel
theorem dL_law_1130 : decode cL_law 1130 = .ok (.iconst 1, 1) := by decide +kernel
theorem dL_law_1131 : decode cL_law 1131 = .ok (.iadd, 1) := by decide +kernel
theorem dL_law_1132 : decode cL_law 1132 = .ok (.iaload, 1) := by decide +kernel
theorem dL_law_1133 : decode cL_law 1133 = .ok (.invokevirtual 165, 3) := by decide +kernel
theorem dL_law_1136 : decode cL_law 1136 = .ok (.istore 6, 2) := by decide +kernel
theorem dL_law_1138 : decode cL_law 1138 = .ok (.aload_n 2, 1) := by decide +kernel
theorem dL_law_1139 : decode cL_law 1139 = .ok (.invokevirtual 96, 3) := by decide +kernel
theorem dL_law_1142 : decode cL_law 1142 = .ok (.iload 5, 2) := by decide +kernel
theorem dL_law_1144 : decode cL_law 1144 = .ok (.if_icmp .eq 5, 3) := by decide +kernel
theorem dL_law_1147 : decode cL_law 1147 = .ok (.iconst 0, 1) := by decide +kernel
theorem dL_law_1148 : decode cL_law 1148 = .ok (.ireturn, 1) := by decide +kernel
theorem dL_law_1149 : decode cL_law 1149 = .ok (.iload 5, 2) := by decide +kernel
theorem dL_law_1151 : decode cL_law 1151 = .ok (.ifCond .ne 15, 3) := by decide +kernel
theorem dL_law_1154 : decode cL_law 1154 = .ok (.aload_n 3, 1) := by decide +kernel
theorem dL_law_1155 : decode cL_law 1155 = .ok (.iconst 0, 1) := by decide +kernel
theorem dL_law_1156 : decode cL_law 1156 = .ok (.laload, 1) := by decide +kernel
theorem dL_law_1157 : decode cL_law 1157 = .ok (.iload 6, 2) := by decide +kernel
theorem dL_law_1159 : decode cL_law 1159 = .ok (.i2l, 1) := by decide +kernel
theorem dL_law_1160 : decode cL_law 1160 = .ok (.lcmp, 1) := by decide +kernel
theorem dL_law_1161 : decode cL_law 1161 = .ok (.ifCond .eq 5, 3) := by decide +kernel
theorem dL_law_1164 : decode cL_law 1164 = .ok (.iconst 0, 1) := by decide +kernel
theorem dL_law_1165 : decode cL_law 1165 = .ok (.ireturn, 1) := by decide +kernel
theorem dL_law_1166 : decode cL_law 1166 = .ok (.goto 427, 3) := by decide +kernel
theorem dL_law_1169 : decode cL_law 1169 = .ok (.aload_n 1, 1) := by decide +kernel
theorem dL_law_1170 : decode cL_law 1170 = .ok (.aload_n 0, 1) := by decide +kernel
theorem dL_law_1171 : decode cL_law 1171 = .ok (.iload 4, 2) := by decide +kernel
theorem dL_law_1173 : decode cL_law 1173 = .ok (.iconst 1, 1) := by decide +kernel
theorem dL_law_1174 : decode cL_law 1174 = .ok (.iadd, 1) := by decide +kernel
theorem dL_law_1175 : decode cL_law 1175 = .ok (.iaload, 1) := by decide +kernel
theorem dL_law_1176 : decode cL_law 1176 = .ok (.aload_n 3, 1) := by decide +kernel
theorem dL_law_1177 : decode cL_law 1177 = .ok (.invokestatic 166, 3) := by decide +kernel
theorem dL_law_1180 : decode cL_law 1180 = .ok (.istore 5, 2) := by decide +kernel
theorem dL_law_1182 : decode cL_law 1182 = .ok (.aload_n 2, 1) := by decide +kernel
theorem dL_law_1183 : decode cL_law 1183 = .ok (.aload_n 0, 1) := by decide +kernel
theorem dL_law_1184 : decode cL_law 1184 = .ok (.iload 4, 2) := by decide +kernel
theorem dL_law_1186 : decode cL_law 1186 = .ok (.iconst 1, 1) := by decide +kernel
theorem dL_law_1187 : decode cL_law 1187 = .ok (.iadd, 1) := by decide +kernel
theorem dL_law_1188 : decode cL_law 1188 = .ok (.iaload, 1) := by decide +kernel
theorem dL_law_1189 : decode cL_law 1189 = .ok (.invokevirtual 168, 3) := by decide +kernel
theorem dL_law_1192 : decode cL_law 1192 = .ok (.istore 6, 2) := by decide +kernel
theorem dL_law_1194 : decode cL_law 1194 = .ok (.aload_n 2, 1) := by decide +kernel
theorem dL_law_1195 : decode cL_law 1195 = .ok (.invokevirtual 96, 3) := by decide +kernel
theorem dL_law_1198 : decode cL_law 1198 = .ok (.iload 5, 2) := by decide +kernel
theorem dL_law_1200 : decode cL_law 1200 = .ok (.if_icmp .eq 5, 3) := by decide +kernel
theorem dL_law_1203 : decode cL_law 1203 = .ok (.iconst 0, 1) := by decide +kernel
theorem dL_law_1204 : decode cL_law 1204 = .ok (.ireturn, 1) := by decide +kernel
theorem dL_law_1205 : decode cL_law 1205 = .ok (.iload 5, 2) := by decide +kernel
theorem dL_law_1207 : decode cL_law 1207 = .ok (.ifCond .ne 15, 3) := by decide +kernel
theorem dL_law_1210 : decode cL_law 1210 = .ok (.aload_n 3, 1) := by decide +kernel
theorem dL_law_1211 : decode cL_law 1211 = .ok (.iconst 0, 1) := by decide +kernel
theorem dL_law_1212 : decode cL_law 1212 = .ok (.laload, 1) := by decide +kernel
theorem dL_law_1213 : decode cL_law 1213 = .ok (.iload 6, 2) := by decide +kernel
theorem dL_law_1215 : decode cL_law 1215 = .ok (.i2l, 1) := by decide +kernel
theorem dL_law_1216 : decode cL_law 1216 = .ok (.lcmp, 1) := by decide +kernel
theorem dL_law_1217 : decode cL_law 1217 = .ok (.ifCond .eq 5, 3) := by decide +kernel
theorem dL_law_1220 : decode cL_law 1220 = .ok (.iconst 0, 1) := by decide +kernel
theorem dL_law_1221 : decode cL_law 1221 = .ok (.ireturn, 1) := by decide +kernel
theorem dL_law_1222 : decode cL_law 1222 = .ok (.goto 371, 3) := by decide +kernel
theorem dL_law_1225 : decode cL_law 1225 = .ok (.aload_n 1, 1) := by decide +kernel
theorem dL_law_1226 : decode cL_law 1226 = .ok (.aload_n 0, 1) := by decide +kernel
theorem dL_law_1227 : decode cL_law 1227 = .ok (.iload 4, 2) := by decide +kernel
theorem dL_law_1229 : decode cL_law 1229 = .ok (.iconst 1, 1) := by decide +kernel
theorem dL_law_1230 : decode cL_law 1230 = .ok (.iadd, 1) := by decide +kernel
theorem dL_law_1231 : decode cL_law 1231 = .ok (.iaload, 1) := by decide +kernel
theorem dL_law_1232 : decode cL_law 1232 = .ok (.aload_n 3, 1) := by decide +kernel
theorem dL_law_1233 : decode cL_law 1233 = .ok (.invokestatic 169, 3) := by decide +kernel
theorem dL_law_1236 : decode cL_law 1236 = .ok (.istore 5, 2) := by decide +kernel
theorem dL_law_1238 : decode cL_law 1238 = .ok (.aload_n 2, 1) := by decide +kernel
theorem dL_law_1239 : decode cL_law 1239 = .ok (.aload_n 0, 1) := by decide +kernel
theorem dL_law_1240 : decode cL_law 1240 = .ok (.iload 4, 2) := by decide +kernel
theorem dL_law_1242 : decode cL_law 1242 = .ok (.iconst 1, 1) := by decide +kernel
theorem dL_law_1243 : decode cL_law 1243 = .ok (.iadd, 1) := by decide +kernel
theorem dL_law_1244 : decode cL_law 1244 = .ok (.iaload, 1) := by decide +kernel
theorem dL_law_1245 : decode cL_law 1245 = .ok (.invokevirtual 171, 3) := by decide +kernel
theorem dL_law_1248 : decode cL_law 1248 = .ok (.istore 6, 2) := by decide +kernel
theorem dL_law_1250 : decode cL_law 1250 = .ok (.aload_n 2, 1) := by decide +kernel
theorem dL_law_1251 : decode cL_law 1251 = .ok (.invokevirtual 96, 3) := by decide +kernel
theorem dL_law_1254 : decode cL_law 1254 = .ok (.iload 5, 2) := by decide +kernel
theorem dL_law_1256 : decode cL_law 1256 = .ok (.if_icmp .eq 5, 3) := by decide +kernel
theorem dL_law_1259 : decode cL_law 1259 = .ok (.iconst 0, 1) := by decide +kernel
theorem dL_law_1260 : decode cL_law 1260 = .ok (.ireturn, 1) := by decide +kernel
theorem dL_law_1261 : decode cL_law 1261 = .ok (.iload 5, 2) := by decide +kernel
theorem dL_law_1263 : decode cL_law 1263 = .ok (.ifCond .ne 15, 3) := by decide +kernel
theorem dL_law_1266 : decode cL_law 1266 = .ok (.aload_n 3, 1) := by decide +kernel
theorem dL_law_1267 : decode cL_law 1267 = .ok (.iconst 0, 1) := by decide +kernel
theorem dL_law_1268 : decode cL_law 1268 = .ok (.laload, 1) := by decide +kernel
theorem dL_law_1269 : decode cL_law 1269 = .ok (.iload 6, 2) := by decide +kernel
theorem dL_law_1271 : decode cL_law 1271 = .ok (.i2l, 1) := by decide +kernel
theorem dL_law_1272 : decode cL_law 1272 = .ok (.lcmp, 1) := by decide +kernel
theorem dL_law_1273 : decode cL_law 1273 = .ok (.ifCond .eq 5, 3) := by decide +kernel
theorem dL_law_1276 : decode cL_law 1276 = .ok (.iconst 0, 1) := by decide +kernel
theorem dL_law_1277 : decode cL_law 1277 = .ok (.ireturn, 1) := by decide +kernel
theorem dL_law_1278 : decode cL_law 1278 = .ok (.goto 315, 3) := by decide +kernel
theorem dL_law_1281 : decode cL_law 1281 = .ok (.aload_n 1, 1) := by decide +kernel
theorem dL_law_1282 : decode cL_law 1282 = .ok (.aload_n 0, 1) := by decide +kernel
theorem dL_law_1283 : decode cL_law 1283 = .ok (.iload 4, 2) := by decide +kernel
theorem dL_law_1285 : decode cL_law 1285 = .ok (.iconst 1, 1) := by decide +kernel
theorem dL_law_1286 : decode cL_law 1286 = .ok (.iadd, 1) := by decide +kernel
theorem dL_law_1287 : decode cL_law 1287 = .ok (.iaload, 1) := by decide +kernel
theorem dL_law_1288 : decode cL_law 1288 = .ok (.aload_n 0, 1) := by decide +kernel
theorem dL_law_1289 : decode cL_law 1289 = .ok (.iload 4, 2) := by decide +kernel
theorem dL_law_1291 : decode cL_law 1291 = .ok (.iconst 2, 1) := by decide +kernel
theorem dL_law_1292 : decode cL_law 1292 = .ok (.iadd, 1) := by decide +kernel
theorem dL_law_1293 : decode cL_law 1293 = .ok (.iaload, 1) := by decide +kernel
theorem dL_law_1294 : decode cL_law 1294 = .ok (.i2l, 1) := by decide +kernel
theorem dL_law_1295 : decode cL_law 1295 = .ok (.bipush 32, 2) := by decide +kernel
theorem dL_law_1297 : decode cL_law 1297 = .ok (.lshl, 1) := by decide +kernel
theorem dL_law_1298 : decode cL_law 1298 = .ok (.aload_n 0, 1) := by decide +kernel
theorem dL_law_1299 : decode cL_law 1299 = .ok (.iload 4, 2) := by decide +kernel
theorem dL_law_1301 : decode cL_law 1301 = .ok (.iconst 3, 1) := by decide +kernel
theorem dL_law_1302 : decode cL_law 1302 = .ok (.iadd, 1) := by decide +kernel
theorem dL_law_1303 : decode cL_law 1303 = .ok (.iaload, 1) := by decide +kernel
theorem dL_law_1304 : decode cL_law 1304 = .ok (.i2l, 1) := by decide +kernel
theorem dL_law_1305 : decode cL_law 1305 = .ok (.ldc2_w 172, 3) := by decide +kernel
theorem dL_law_1308 : decode cL_law 1308 = .ok (.land, 1) := by decide +kernel
theorem dL_law_1309 : decode cL_law 1309 = .ok (.lor, 1) := by decide +kernel
theorem dL_law_1310 : decode cL_law 1310 = .ok (.aload_n 3, 1) := by decide +kernel
theorem dL_law_1311 : decode cL_law 1311 = .ok (.invokestatic 174, 3) := by decide +kernel
theorem dL_law_1314 : decode cL_law 1314 = .ok (.istore 5, 2) := by decide +kernel
theorem dL_law_1316 : decode cL_law 1316 = .ok (.aload_n 2, 1) := by decide +kernel
theorem dL_law_1317 : decode cL_law 1317 = .ok (.aload_n 0, 1) := by decide +kernel
theorem dL_law_1318 : decode cL_law 1318 = .ok (.iload 4, 2) := by decide +kernel
theorem dL_law_1320 : decode cL_law 1320 = .ok (.iconst 1, 1) := by decide +kernel
theorem dL_law_1321 : decode cL_law 1321 = .ok (.iadd, 1) := by decide +kernel
theorem dL_law_1322 : decode cL_law 1322 = .ok (.iaload, 1) := by decide +kernel
theorem dL_law_1323 : decode cL_law 1323 = .ok (.aload_n 0, 1) := by decide +kernel
theorem dL_law_1324 : decode cL_law 1324 = .ok (.iload 4, 2) := by decide +kernel
theorem dL_law_1326 : decode cL_law 1326 = .ok (.iconst 2, 1) := by decide +kernel
theorem dL_law_1327 : decode cL_law 1327 = .ok (.iadd, 1) := by decide +kernel
theorem dL_law_1328 : decode cL_law 1328 = .ok (.iaload, 1) := by decide +kernel
theorem dL_law_1329 : decode cL_law 1329 = .ok (.i2l, 1) := by decide +kernel
theorem dL_law_1330 : decode cL_law 1330 = .ok (.bipush 32, 2) := by decide +kernel
theorem dL_law_1332 : decode cL_law 1332 = .ok (.lshl, 1) := by decide +kernel
theorem dL_law_1333 : decode cL_law 1333 = .ok (.aload_n 0, 1) := by decide +kernel
theorem dL_law_1334 : decode cL_law 1334 = .ok (.iload 4, 2) := by decide +kernel
theorem dL_law_1336 : decode cL_law 1336 = .ok (.iconst 3, 1) := by decide +kernel
theorem dL_law_1337 : decode cL_law 1337 = .ok (.iadd, 1) := by decide +kernel
theorem dL_law_1338 : decode cL_law 1338 = .ok (.iaload, 1) := by decide +kernel
theorem dL_law_1339 : decode cL_law 1339 = .ok (.i2l, 1) := by decide +kernel
theorem dL_law_1340 : decode cL_law 1340 = .ok (.ldc2_w 172, 3) := by decide +kernel
theorem dL_law_1343 : decode cL_law 1343 = .ok (.land, 1) := by decide +kernel
theorem dL_law_1344 : decode cL_law 1344 = .ok (.lor, 1) := by decide +kernel
theorem dL_law_1345 : decode cL_law 1345 = .ok (.invokevirtual 177, 3) := by decide +kernel
theorem dL_law_1348 : decode cL_law 1348 = .ok (.istore 6, 2) := by decide +kernel
theorem dL_law_1350 : decode cL_law 1350 = .ok (.aload_n 2, 1) := by decide +kernel
theorem dL_law_1351 : decode cL_law 1351 = .ok (.invokevirtual 96, 3) := by decide +kernel
theorem dL_law_1354 : decode cL_law 1354 = .ok (.iload 5, 2) := by decide +kernel
theorem dL_law_1356 : decode cL_law 1356 = .ok (.if_icmp .eq 5, 3) := by decide +kernel
theorem dL_law_1359 : decode cL_law 1359 = .ok (.iconst 0, 1) := by decide +kernel
theorem dL_law_1360 : decode cL_law 1360 = .ok (.ireturn, 1) := by decide +kernel
theorem dL_law_1361 : decode cL_law 1361 = .ok (.iload 5, 2) := by decide +kernel
theorem dL_law_1363 : decode cL_law 1363 = .ok (.ifCond .ne 15, 3) := by decide +kernel
theorem dL_law_1366 : decode cL_law 1366 = .ok (.aload_n 3, 1) := by decide +kernel
theorem dL_law_1367 : decode cL_law 1367 = .ok (.iconst 0, 1) := by decide +kernel
theorem dL_law_1368 : decode cL_law 1368 = .ok (.laload, 1) := by decide +kernel
theorem dL_law_1369 : decode cL_law 1369 = .ok (.iload 6, 2) := by decide +kernel
theorem dL_law_1371 : decode cL_law 1371 = .ok (.i2l, 1) := by decide +kernel
theorem dL_law_1372 : decode cL_law 1372 = .ok (.lcmp, 1) := by decide +kernel
theorem dL_law_1373 : decode cL_law 1373 = .ok (.ifCond .eq 5, 3) := by decide +kernel
theorem dL_law_1376 : decode cL_law 1376 = .ok (.iconst 0, 1) := by decide +kernel
theorem dL_law_1377 : decode cL_law 1377 = .ok (.ireturn, 1) := by decide +kernel
theorem dL_law_1378 : decode cL_law 1378 = .ok (.goto 215, 3) := by decide +kernel
theorem dL_law_1381 : decode cL_law 1381 = .ok (.aload_n 1, 1) := by decide +kernel
theorem dL_law_1382 : decode cL_law 1382 = .ok (.aload_n 0, 1) := by decide +kernel
theorem dL_law_1383 : decode cL_law 1383 = .ok (.iload 4, 2) := by decide +kernel
theorem dL_law_1385 : decode cL_law 1385 = .ok (.iconst 1, 1) := by decide +kernel
theorem dL_law_1386 : decode cL_law 1386 = .ok (.iadd, 1) := by decide +kernel
theorem dL_law_1387 : decode cL_law 1387 = .ok (.iaload, 1) := by decide +kernel
theorem dL_law_1388 : decode cL_law 1388 = .ok (.i2l, 1) := by decide +kernel
theorem dL_law_1389 : decode cL_law 1389 = .ok (.bipush 32, 2) := by decide +kernel
theorem dL_law_1391 : decode cL_law 1391 = .ok (.lshl, 1) := by decide +kernel
theorem dL_law_1392 : decode cL_law 1392 = .ok (.aload_n 0, 1) := by decide +kernel
theorem dL_law_1393 : decode cL_law 1393 = .ok (.iload 4, 2) := by decide +kernel
theorem dL_law_1395 : decode cL_law 1395 = .ok (.iconst 2, 1) := by decide +kernel
theorem dL_law_1396 : decode cL_law 1396 = .ok (.iadd, 1) := by decide +kernel
theorem dL_law_1397 : decode cL_law 1397 = .ok (.iaload, 1) := by decide +kernel
theorem dL_law_1398 : decode cL_law 1398 = .ok (.i2l, 1) := by decide +kernel
theorem dL_law_1399 : decode cL_law 1399 = .ok (.ldc2_w 172, 3) := by decide +kernel
theorem dL_law_1402 : decode cL_law 1402 = .ok (.land, 1) := by decide +kernel
theorem dL_law_1403 : decode cL_law 1403 = .ok (.lor, 1) := by decide +kernel
theorem dL_law_1404 : decode cL_law 1404 = .ok (.aload_n 0, 1) := by decide +kernel
theorem dL_law_1405 : decode cL_law 1405 = .ok (.iload 4, 2) := by decide +kernel
theorem dL_law_1407 : decode cL_law 1407 = .ok (.iconst 3, 1) := by decide +kernel
theorem dL_law_1408 : decode cL_law 1408 = .ok (.iadd, 1) := by decide +kernel
theorem dL_law_1409 : decode cL_law 1409 = .ok (.iaload, 1) := by decide +kernel
theorem dL_law_1410 : decode cL_law 1410 = .ok (.aload_n 3, 1) := by decide +kernel
theorem dL_law_1411 : decode cL_law 1411 = .ok (.invokestatic 178, 3) := by decide +kernel
theorem dL_law_1414 : decode cL_law 1414 = .ok (.istore 5, 2) := by decide +kernel
theorem dL_law_1416 : decode cL_law 1416 = .ok (.aload_n 2, 1) := by decide +kernel
theorem dL_law_1417 : decode cL_law 1417 = .ok (.aload_n 0, 1) := by decide +kernel
theorem dL_law_1418 : decode cL_law 1418 = .ok (.iload 4, 2) := by decide +kernel
theorem dL_law_1420 : decode cL_law 1420 = .ok (.iconst 1, 1) := by decide +kernel
theorem dL_law_1421 : decode cL_law 1421 = .ok (.iadd, 1) := by decide +kernel
theorem dL_law_1422 : decode cL_law 1422 = .ok (.iaload, 1) := by decide +kernel
theorem dL_law_1423 : decode cL_law 1423 = .ok (.i2l, 1) := by decide +kernel
theorem dL_law_1424 : decode cL_law 1424 = .ok (.bipush 32, 2) := by decide +kernel
theorem dL_law_1426 : decode cL_law 1426 = .ok (.lshl, 1) := by decide +kernel
theorem dL_law_1427 : decode cL_law 1427 = .ok (.aload_n 0, 1) := by decide +kernel
theorem dL_law_1428 : decode cL_law 1428 = .ok (.iload 4, 2) := by decide +kernel
theorem dL_law_1430 : decode cL_law 1430 = .ok (.iconst 2, 1) := by decide +kernel
theorem dL_law_1431 : decode cL_law 1431 = .ok (.iadd, 1) := by decide +kernel
theorem dL_law_1432 : decode cL_law 1432 = .ok (.iaload, 1) := by decide +kernel
theorem dL_law_1433 : decode cL_law 1433 = .ok (.i2l, 1) := by decide +kernel
theorem dL_law_1434 : decode cL_law 1434 = .ok (.ldc2_w 172, 3) := by decide +kernel
theorem dL_law_1437 : decode cL_law 1437 = .ok (.land, 1) := by decide +kernel
theorem dL_law_1438 : decode cL_law 1438 = .ok (.lor, 1) := by decide +kernel
theorem dL_law_1439 : decode cL_law 1439 = .ok (.aload_n 0, 1) := by decide +kernel
theorem dL_law_1440 : decode cL_law 1440 = .ok (.iload 4, 2) := by decide +kernel
theorem dL_law_1442 : decode cL_law 1442 = .ok (.iconst 3, 1) := by decide +kernel
theorem dL_law_1443 : decode cL_law 1443 = .ok (.iadd, 1) := by decide +kernel
theorem dL_law_1444 : decode cL_law 1444 = .ok (.iaload, 1) := by decide +kernel
theorem dL_law_1445 : decode cL_law 1445 = .ok (.invokevirtual 181, 3) := by decide +kernel
theorem dL_law_1448 : decode cL_law 1448 = .ok (.istore 6, 2) := by decide +kernel
theorem dL_law_1450 : decode cL_law 1450 = .ok (.aload_n 2, 1) := by decide +kernel
theorem dL_law_1451 : decode cL_law 1451 = .ok (.invokevirtual 96, 3) := by decide +kernel
theorem dL_law_1454 : decode cL_law 1454 = .ok (.iload 5, 2) := by decide +kernel
theorem dL_law_1456 : decode cL_law 1456 = .ok (.if_icmp .eq 5, 3) := by decide +kernel
theorem dL_law_1459 : decode cL_law 1459 = .ok (.iconst 0, 1) := by decide +kernel
theorem dL_law_1460 : decode cL_law 1460 = .ok (.ireturn, 1) := by decide +kernel
theorem dL_law_1461 : decode cL_law 1461 = .ok (.iload 5, 2) := by decide +kernel
theorem dL_law_1463 : decode cL_law 1463 = .ok (.ifCond .ne 15, 3) := by decide +kernel
theorem dL_law_1466 : decode cL_law 1466 = .ok (.aload_n 3, 1) := by decide +kernel
theorem dL_law_1467 : decode cL_law 1467 = .ok (.iconst 0, 1) := by decide +kernel
theorem dL_law_1468 : decode cL_law 1468 = .ok (.laload, 1) := by decide +kernel
theorem dL_law_1469 : decode cL_law 1469 = .ok (.iload 6, 2) := by decide +kernel
theorem dL_law_1471 : decode cL_law 1471 = .ok (.i2l, 1) := by decide +kernel
theorem dL_law_1472 : decode cL_law 1472 = .ok (.lcmp, 1) := by decide +kernel
theorem dL_law_1473 : decode cL_law 1473 = .ok (.ifCond .eq 5, 3) := by decide +kernel
theorem dL_law_1476 : decode cL_law 1476 = .ok (.iconst 0, 1) := by decide +kernel
theorem dL_law_1477 : decode cL_law 1477 = .ok (.ireturn, 1) := by decide +kernel
theorem dL_law_1478 : decode cL_law 1478 = .ok (.goto 115, 3) := by decide +kernel
theorem dL_law_1481 : decode cL_law 1481 = .ok (.aload_n 1, 1) := by decide +kernel
theorem dL_law_1482 : decode cL_law 1482 = .ok (.aload_n 0, 1) := by decide +kernel
theorem dL_law_1483 : decode cL_law 1483 = .ok (.iload 4, 2) := by decide +kernel
theorem dL_law_1485 : decode cL_law 1485 = .ok (.iconst 1, 1) := by decide +kernel
theorem dL_law_1486 : decode cL_law 1486 = .ok (.iadd, 1) := by decide +kernel
theorem dL_law_1487 : decode cL_law 1487 = .ok (.iaload, 1) := by decide +kernel
theorem dL_law_1488 : decode cL_law 1488 = .ok (.aload_n 3, 1) := by decide +kernel
theorem dL_law_1489 : decode cL_law 1489 = .ok (.invokestatic 182, 3) := by decide +kernel
theorem dL_law_1492 : decode cL_law 1492 = .ok (.istore 5, 2) := by decide +kernel
theorem dL_law_1494 : decode cL_law 1494 = .ok (.aload_n 2, 1) := by decide +kernel
theorem dL_law_1495 : decode cL_law 1495 = .ok (.aload_n 0, 1) := by decide +kernel
theorem dL_law_1496 : decode cL_law 1496 = .ok (.iload 4, 2) := by decide +kernel
theorem dL_law_1498 : decode cL_law 1498 = .ok (.iconst 1, 1) := by decide +kernel
theorem dL_law_1499 : decode cL_law 1499 = .ok (.iadd, 1) := by decide +kernel
theorem dL_law_1500 : decode cL_law 1500 = .ok (.iaload, 1) := by decide +kernel
theorem dL_law_1501 : decode cL_law 1501 = .ok (.invokevirtual 184, 3) := by decide +kernel
theorem dL_law_1504 : decode cL_law 1504 = .ok (.istore 6, 2) := by decide +kernel
theorem dL_law_1506 : decode cL_law 1506 = .ok (.aload_n 2, 1) := by decide +kernel
theorem dL_law_1507 : decode cL_law 1507 = .ok (.invokevirtual 96, 3) := by decide +kernel
theorem dL_law_1510 : decode cL_law 1510 = .ok (.iload 5, 2) := by decide +kernel
theorem dL_law_1512 : decode cL_law 1512 = .ok (.if_icmp .eq 5, 3) := by decide +kernel
theorem dL_law_1515 : decode cL_law 1515 = .ok (.iconst 0, 1) := by decide +kernel
theorem dL_law_1516 : decode cL_law 1516 = .ok (.ireturn, 1) := by decide +kernel
theorem dL_law_1517 : decode cL_law 1517 = .ok (.iload 5, 2) := by decide +kernel
theorem dL_law_1519 : decode cL_law 1519 = .ok (.ifCond .ne 15, 3) := by decide +kernel
theorem dL_law_1522 : decode cL_law 1522 = .ok (.aload_n 3, 1) := by decide +kernel
theorem dL_law_1523 : decode cL_law 1523 = .ok (.iconst 0, 1) := by decide +kernel
theorem dL_law_1524 : decode cL_law 1524 = .ok (.laload, 1) := by decide +kernel
theorem dL_law_1525 : decode cL_law 1525 = .ok (.iload 6, 2) := by decide +kernel
theorem dL_law_1527 : decode cL_law 1527 = .ok (.i2l, 1) := by decide +kernel
theorem dL_law_1528 : decode cL_law 1528 = .ok (.lcmp, 1) := by decide +kernel
theorem dL_law_1529 : decode cL_law 1529 = .ok (.ifCond .eq 5, 3) := by decide +kernel
theorem dL_law_1532 : decode cL_law 1532 = .ok (.iconst 0, 1) := by decide +kernel
theorem dL_law_1533 : decode cL_law 1533 = .ok (.ireturn, 1) := by decide +kernel
theorem dL_law_1534 : decode cL_law 1534 = .ok (.goto 59, 3) := by decide +kernel
theorem dL_law_1537 : decode cL_law 1537 = .ok (.aload_n 1, 1) := by decide +kernel
theorem dL_law_1538 : decode cL_law 1538 = .ok (.aload_n 0, 1) := by decide +kernel
theorem dL_law_1539 : decode cL_law 1539 = .ok (.iload 4, 2) := by decide +kernel
theorem dL_law_1541 : decode cL_law 1541 = .ok (.iconst 1, 1) := by decide +kernel
theorem dL_law_1542 : decode cL_law 1542 = .ok (.iadd, 1) := by decide +kernel
theorem dL_law_1543 : decode cL_law 1543 = .ok (.iaload, 1) := by decide +kernel
theorem dL_law_1544 : decode cL_law 1544 = .ok (.aload_n 3, 1) := by decide +kernel
theorem dL_law_1545 : decode cL_law 1545 = .ok (.invokestatic 185, 3) := by decide +kernel
theorem dL_law_1548 : decode cL_law 1548 = .ok (.istore 5, 2) := by decide +kernel
theorem dL_law_1550 : decode cL_law 1550 = .ok (.aload_n 2, 1) := by decide +kernel
theorem dL_law_1551 : decode cL_law 1551 = .ok (.aload_n 0, 1) := by decide +kernel
theorem dL_law_1552 : decode cL_law 1552 = .ok (.iload 4, 2) := by decide +kernel
theorem dL_law_1554 : decode cL_law 1554 = .ok (.iconst 1, 1) := by decide +kernel
theorem dL_law_1555 : decode cL_law 1555 = .ok (.iadd, 1) := by decide +kernel
theorem dL_law_1556 : decode cL_law 1556 = .ok (.iaload, 1) := by decide +kernel
theorem dL_law_1557 : decode cL_law 1557 = .ok (.invokevirtual 187, 3) := by decide +kernel
theorem dL_law_1560 : decode cL_law 1560 = .ok (.istore 6, 2) := by decide +kernel
theorem dL_law_1562 : decode cL_law 1562 = .ok (.aload_n 2, 1) := by decide +kernel
theorem dL_law_1563 : decode cL_law 1563 = .ok (.invokevirtual 96, 3) := by decide +kernel
theorem dL_law_1566 : decode cL_law 1566 = .ok (.iload 5, 2) := by decide +kernel
theorem dL_law_1568 : decode cL_law 1568 = .ok (.if_icmp .eq 5, 3) := by decide +kernel
theorem dL_law_1571 : decode cL_law 1571 = .ok (.iconst 0, 1) := by decide +kernel
theorem dL_law_1572 : decode cL_law 1572 = .ok (.ireturn, 1) := by decide +kernel
theorem dL_law_1573 : decode cL_law 1573 = .ok (.iload 5, 2) := by decide +kernel
theorem dL_law_1575 : decode cL_law 1575 = .ok (.ifCond .ne 15, 3) := by decide +kernel
theorem dL_law_1578 : decode cL_law 1578 = .ok (.aload_n 3, 1) := by decide +kernel
theorem dL_law_1579 : decode cL_law 1579 = .ok (.iconst 0, 1) := by decide +kernel
theorem dL_law_1580 : decode cL_law 1580 = .ok (.laload, 1) := by decide +kernel
theorem dL_law_1581 : decode cL_law 1581 = .ok (.iload 6, 2) := by decide +kernel
theorem dL_law_1583 : decode cL_law 1583 = .ok (.i2l, 1) := by decide +kernel
theorem dL_law_1584 : decode cL_law 1584 = .ok (.lcmp, 1) := by decide +kernel
theorem dL_law_1585 : decode cL_law 1585 = .ok (.ifCond .eq 5, 3) := by decide +kernel
theorem dL_law_1588 : decode cL_law 1588 = .ok (.iconst 0, 1) := by decide +kernel
theorem dL_law_1589 : decode cL_law 1589 = .ok (.ireturn, 1) := by decide +kernel
theorem dL_law_1590 : decode cL_law 1590 = .ok (.goto 3, 3) := by decide +kernel
theorem dL_law_1593 : decode cL_law 1593 = .ok (.iinc 4 4, 3) := by decide +kernel
theorem dL_law_1596 : decode cL_law 1596 = .ok (.goto (-1573), 3) := by decide +kernel
theorem dL_law_1599 : decode cL_law 1599 = .ok (.iconst 1, 1) := by decide +kernel
theorem dL_law_1600 : decode cL_law 1600 = .ok (.ireturn, 1) := by decide +kernel
