theorem dX3_read_67 : decode cX3_read 67 = .ok (.goto 4, 3) := by decide +kernel
theorem dX3_read_70 : decode cX3_read 70 = .ok (.iconst 0, 1) := by decide +kernel
theorem dX3_read_71 : decode cX3_read 71 = .ok (.istore_n 3, 1) := by decide +kernel
theorem dX3_read_72 : decode cX3_read 72 = .ok (.iinc 4 1, 3) := by decide +kernel
theorem dX3_read_75 : decode cX3_read 75 = .ok (.goto (-35), 3) := by decide +kernel
theorem dX3_read_78 : decode cX3_read 78 = .ok (.aload_n 0, 1) := by decide +kernel
theorem dX3_read_79 : decode cX3_read 79 = .ok (.getfield 35, 3) := by decide +kernel
theorem dX3_read_82 : decode cX3_read 82 = .ok (.ireturn, 1) := by decide +kernel
theorem dX3_goesOn_0 : decode cX3_goesOn 0 = .ok (.aload_n 0, 1) := by decide +kernel
theorem dX3_goesOn_1 : decode cX3_goesOn 1 = .ok (.invokevirtual 51, 3) := by decide +kernel
theorem dX3_goesOn_4 : decode cX3_goesOn 4 = .ok (.aload_n 0, 1) := by decide +kernel
theorem dX3_goesOn_5 : decode cX3_goesOn 5 = .ok (.getfield 54, 3) := by decide +kernel
theorem dX3_goesOn_8 : decode cX3_goesOn 8 = .ok (.ifCond .ne 24, 3) := by decide +kernel
theorem dX3_goesOn_11 : decode cX3_goesOn 11 = .ok (.aload_n 0, 1) := by decide +kernel
theorem dX3_goesOn_12 : decode cX3_goesOn 12 = .ok (.getfield 12, 3) := by decide +kernel
theorem dX3_goesOn_15 : decode cX3_goesOn 15 = .ok (.getfield 57, 3) := by decide +kernel
theorem dX3_goesOn_18 : decode cX3_goesOn 18 = .ok (.ifCond .le 7, 3) := by decide +kernel
theorem dX3_goesOn_21 : decode cX3_goesOn 21 = .ok (.iconst 0, 1) := by decide +kernel
theorem dX3_goesOn_22 : decode cX3_goesOn 22 = .ok (.goto 9, 3) := by decide +kernel
theorem dX3_goesOn_25 : decode cX3_goesOn 25 = .ok (.aload_n 0, 1) := by decide +kernel
theorem dX3_goesOn_26 : decode cX3_goesOn 26 = .ok (.bipush 6, 2) := by decide +kernel
theorem dX3_goesOn_28 : decode cX3_goesOn 28 = .ok (.invokevirtual 60, 3) := by decide +kernel
theorem dX3_goesOn_31 : decode cX3_goesOn 31 = .ok (.ireturn, 1) := by decide +kernel
theorem dX3_goesOn_32 : decode cX3_goesOn 32 = .ok (.aload_n 0, 1) := by decide +kernel
theorem dX3_goesOn_33 : decode cX3_goesOn 33 = .ok (.getfield 54, 3) := by decide +kernel
theorem dX3_goesOn_36 : decode cX3_goesOn 36 = .ok (.iconst 3, 1) := by decide +kernel
theorem dX3_goesOn_37 : decode cX3_goesOn 37 = .ok (.if_icmp .eq 11, 3) := by decide +kernel
theorem dX3_goesOn_40 : decode cX3_goesOn 40 = .ok (.aload_n 0, 1) := by decide +kernel
theorem dX3_goesOn_41 : decode cX3_goesOn 41 = .ok (.iconst 1, 1) := by decide +kernel
theorem dX3_goesOn_42 : decode cX3_goesOn 42 = .ok (.invokevirtual 60, 3) := by decide +kernel
theorem dX3_goesOn_45 : decode cX3_goesOn 45 = .ok (.ifCond .eq 7, 3) := by decide +kernel
theorem dX3_goesOn_48 : decode cX3_goesOn 48 = .ok (.iconst 1, 1) := by decide +kernel
theorem dX3_goesOn_49 : decode cX3_goesOn 49 = .ok (.goto 4, 3) := by decide +kernel
theorem dX3_goesOn_52 : decode cX3_goesOn 52 = .ok (.iconst 0, 1) := by decide +kernel
theorem dX3_goesOn_53 : decode cX3_goesOn 53 = .ok (.ireturn, 1) := by decide +kernel
theorem dX3_readLine_0 : decode cX3_readLine 0 = .ok (.aload_n 0, 1) := by decide +kernel
theorem dX3_readLine_1 : decode cX3_readLine 1 = .ok (.invokevirtual 51, 3) := by decide +kernel
theorem dX3_readLine_4 : decode cX3_readLine 4 = .ok (.aload_n 0, 1) := by decide +kernel
theorem dX3_readLine_5 : decode cX3_readLine 5 = .ok (.ldc 64, 2) := by decide +kernel
theorem dX3_readLine_7 : decode cX3_readLine 7 = .ok (.invokevirtual 66, 3) := by decide +kernel
theorem dX3_readLine_10 : decode cX3_readLine 10 = .ok (.ifCond .eq 26, 3) := by decide +kernel
theorem dX3_readLine_13 : decode cX3_readLine 13 = .ok (.aload_n 0, 1) := by decide +kernel
theorem dX3_readLine_14 : decode cX3_readLine 14 = .ok (.getfield 12, 3) := by decide +kernel
theorem dX3_readLine_17 : decode cX3_readLine 17 = .ok (.getfield 70, 3) := by decide +kernel
theorem dX3_readLine_20 : decode cX3_readLine 20 = .ok (.ifCond .eq 11, 3) := by decide +kernel
theorem dX3_readLine_23 : decode cX3_readLine 23 = .ok (.aload_n 0, 1) := by decide +kernel
theorem dX3_readLine_24 : decode cX3_readLine 24 = .ok (.iconst 3, 1) := by decide +kernel
theorem dX3_readLine_25 : decode cX3_readLine 25 = .ok (.invokevirtual 60, 3) := by decide +kernel
theorem dX3_readLine_28 : decode cX3_readLine 28 = .ok (.goto 7, 3) := by decide +kernel
theorem dX3_readLine_31 : decode cX3_readLine 31 = .ok (.aload_n 0, 1) := by decide +kernel
theorem dX3_readLine_32 : decode cX3_readLine 32 = .ok (.invokevirtual 74, 3) := by decide +kernel
theorem dX3_readLine_35 : decode cX3_readLine 35 = .ok (.ireturn, 1) := by decide +kernel
theorem dX3_readLine_36 : decode cX3_readLine 36 = .ok (.aload_n 0, 1) := by decide +kernel
theorem dX3_readLine_37 : decode cX3_readLine 37 = .ok (.ldc 77, 2) := by decide +kernel
theorem dX3_readLine_39 : decode cX3_readLine 39 = .ok (.invokevirtual 66, 3) := by decide +kernel
theorem dX3_readLine_42 : decode cX3_readLine 42 = .ok (.istore_n 1, 1) := by decide +kernel
theorem dX3_readLine_43 : decode cX3_readLine 43 = .ok (.iload_n 1, 1) := by decide +kernel
theorem dX3_readLine_44 : decode cX3_readLine 44 = .ok (.ifCond .ne 18, 3) := by decide +kernel
theorem dX3_readLine_47 : decode cX3_readLine 47 = .ok (.aload_n 0, 1) := by decide +kernel
theorem dX3_readLine_48 : decode cX3_readLine 48 = .ok (.ldc 79, 2) := by decide +kernel
theorem dX3_readLine_50 : decode cX3_readLine 50 = .ok (.invokevirtual 66, 3) := by decide +kernel
theorem dX3_readLine_53 : decode cX3_readLine 53 = .ok (.ifCond .ne 9, 3) := by decide +kernel
theorem dX3_readLine_56 : decode cX3_readLine 56 = .ok (.aload_n 0, 1) := by decide +kernel
theorem dX3_readLine_57 : decode cX3_readLine 57 = .ok (.iconst 1, 1) := by decide +kernel
theorem dX3_readLine_58 : decode cX3_readLine 58 = .ok (.invokevirtual 60, 3) := by decide +kernel
theorem dX3_readLine_61 : decode cX3_readLine 61 = .ok (.ireturn, 1) := by decide +kernel
theorem dX3_readLine_62 : decode cX3_readLine 62 = .ok (.aload_n 0, 1) := by decide +kernel
theorem dX3_readLine_63 : decode cX3_readLine 63 = .ok (.getfield 12, 3) := by decide +kernel
theorem dX3_readLine_66 : decode cX3_readLine 66 = .ok (.getfield 70, 3) := by decide +kernel
theorem dX3_readLine_69 : decode cX3_readLine 69 = .ok (.ifCond .ne 10, 3) := by decide +kernel
theorem dX3_readLine_72 : decode cX3_readLine 72 = .ok (.aload_n 0, 1) := by decide +kernel
theorem dX3_readLine_73 : decode cX3_readLine 73 = .ok (.bipush 6, 2) := by decide +kernel
theorem dX3_readLine_75 : decode cX3_readLine 75 = .ok (.invokevirtual 60, 3) := by decide +kernel
theorem dX3_readLine_78 : decode cX3_readLine 78 = .ok (.ireturn, 1) := by decide +kernel
theorem dX3_readLine_79 : decode cX3_readLine 79 = .ok (.iload_n 1, 1) := by decide +kernel
theorem dX3_readLine_80 : decode cX3_readLine 80 = .ok (.ifCond .eq 28, 3) := by decide +kernel
theorem dX3_readLine_83 : decode cX3_readLine 83 = .ok (.aload_n 0, 1) := by decide +kernel
theorem dX3_readLine_84 : decode cX3_readLine 84 = .ok (.getfield 12, 3) := by decide +kernel
theorem dX3_readLine_87 : decode cX3_readLine 87 = .ok (.getfield 57, 3) := by decide +kernel
theorem dX3_readLine_90 : decode cX3_readLine 90 = .ok (.bipush 6, 2) := by decide +kernel
theorem dX3_readLine_92 : decode cX3_readLine 92 = .ok (.if_icmp .lt 11, 3) := by decide +kernel
theorem dX3_readLine_95 : decode cX3_readLine 95 = .ok (.aload_n 0, 1) := by decide +kernel
theorem dX3_readLine_96 : decode cX3_readLine 96 = .ok (.iconst 5, 1) := by decide +kernel
theorem dX3_readLine_97 : decode cX3_readLine 97 = .ok (.invokevirtual 60, 3) := by decide +kernel
theorem dX3_readLine_100 : decode cX3_readLine 100 = .ok (.goto 7, 3) := by decide +kernel
theorem dX3_readLine_103 : decode cX3_readLine 103 = .ok (.aload_n 0, 1) := by decide +kernel
theorem dX3_readLine_104 : decode cX3_readLine 104 = .ok (.invokevirtual 81, 3) := by decide +kernel
theorem dX3_readLine_107 : decode cX3_readLine 107 = .ok (.ireturn, 1) := by decide +kernel
theorem dX3_readLine_108 : decode cX3_readLine 108 = .ok (.aload_n 0, 1) := by decide +kernel
theorem dX3_readLine_109 : decode cX3_readLine 109 = .ok (.getfield 12, 3) := by decide +kernel
theorem dX3_readLine_112 : decode cX3_readLine 112 = .ok (.getfield 84, 3) := by decide +kernel
theorem dX3_readLine_115 : decode cX3_readLine 115 = .ok (.bipush 12, 2) := by decide +kernel
theorem dX3_readLine_117 : decode cX3_readLine 117 = .ok (.if_icmp .lt 11, 3) := by decide +kernel
theorem dX3_readLine_120 : decode cX3_readLine 120 = .ok (.aload_n 0, 1) := by decide +kernel
theorem dX3_readLine_121 : decode cX3_readLine 121 = .ok (.iconst 5, 1) := by decide +kernel
theorem dX3_readLine_122 : decode cX3_readLine 122 = .ok (.invokevirtual 60, 3) := by decide +kernel
theorem dX3_readLine_125 : decode cX3_readLine 125 = .ok (.goto 7, 3) := by decide +kernel
theorem dX3_readLine_128 : decode cX3_readLine 128 = .ok (.aload_n 0, 1) := by decide +kernel
theorem dX3_readLine_129 : decode cX3_readLine 129 = .ok (.invokevirtual 87, 3) := by decide +kernel
theorem dX3_readLine_132 : decode cX3_readLine 132 = .ok (.ireturn, 1) := by decide +kernel
theorem dX3_readHead_0 : decode cX3_readHead 0 = .ok (.aload_n 0, 1) := by decide +kernel
theorem dX3_readHead_1 : decode cX3_readHead 1 = .ok (.getfield 12, 3) := by decide +kernel
theorem dX3_readHead_4 : decode cX3_readHead 4 = .ok (.iconst 1, 1) := by decide +kernel
theorem dX3_readHead_5 : decode cX3_readHead 5 = .ok (.putfield 70, 3) := by decide +kernel
theorem dX3_readHead_8 : decode cX3_readHead 8 = .ok (.aload_n 0, 1) := by decide +kernel
theorem dX3_readHead_9 : decode cX3_readHead 9 = .ok (.ldc 90, 2) := by decide +kernel
theorem dX3_readHead_11 : decode cX3_readHead 11 = .ok (.invokevirtual 92, 3) := by decide +kernel
theorem dX3_readHead_14 : decode cX3_readHead 14 = .ok (.ifCond .eq 12, 3) := by decide +kernel
theorem dX3_readHead_17 : decode cX3_readHead 17 = .ok (.aload_n 0, 1) := by decide +kernel
theorem dX3_readHead_18 : decode cX3_readHead 18 = .ok (.iconst 1, 1) := by decide +kernel
theorem dX3_readHead_19 : decode cX3_readHead 19 = .ok (.iconst 3, 1) := by decide +kernel
theorem dX3_readHead_20 : decode cX3_readHead 20 = .ok (.invokevirtual 95, 3) := by decide +kernel
theorem dX3_readHead_23 : decode cX3_readHead 23 = .ok (.ifCond .ne 5, 3) := by decide +kernel
theorem dX3_readHead_26 : decode cX3_readHead 26 = .ok (.iconst 0, 1) := by decide +kernel
theorem dX3_readHead_27 : decode cX3_readHead 27 = .ok (.ireturn, 1) := by decide +kernel
theorem dX3_readHead_28 : decode cX3_readHead 28 = .ok (.aload_n 0, 1) := by decide +kernel
theorem dX3_readHead_29 : decode cX3_readHead 29 = .ok (.getfield 12, 3) := by decide +kernel
theorem dX3_readHead_32 : decode cX3_readHead 32 = .ok (.aload_n 0, 1) := by decide +kernel
theorem dX3_readHead_33 : decode cX3_readHead 33 = .ok (.getfield 99, 3) := by decide +kernel
theorem dX3_readHead_36 : decode cX3_readHead 36 = .ok (.putfield 102, 3) := by decide +kernel
theorem dX3_readHead_39 : decode cX3_readHead 39 = .ok (.aload_n 0, 1) := by decide +kernel
theorem dX3_readHead_40 : decode cX3_readHead 40 = .ok (.ldc 104, 2) := by decide +kernel
theorem dX3_readHead_42 : decode cX3_readHead 42 = .ok (.invokevirtual 92, 3) := by decide +kernel
theorem dX3_readHead_45 : decode cX3_readHead 45 = .ok (.ifCond .eq 13, 3) := by decide +kernel
theorem dX3_readHead_48 : decode cX3_readHead 48 = .ok (.aload_n 0, 1) := by decide +kernel
theorem dX3_readHead_49 : decode cX3_readHead 49 = .ok (.iconst 0, 1) := by decide +kernel
theorem dX3_readHead_50 : decode cX3_readHead 50 = .ok (.bipush 20, 2) := by decide +kernel
theorem dX3_readHead_52 : decode cX3_readHead 52 = .ok (.invokevirtual 95, 3) := by decide +kernel
theorem dX3_readHead_55 : decode cX3_readHead 55 = .ok (.ifCond .ne 5, 3) := by decide +kernel
theorem dX3_readHead_58 : decode cX3_readHead 58 = .ok (.iconst 0, 1) := by decide +kernel
theorem dX3_readHead_59 : decode cX3_readHead 59 = .ok (.ireturn, 1) := by decide +kernel
theorem dX3_readHead_60 : decode cX3_readHead 60 = .ok (.aload_n 0, 1) := by decide +kernel
theorem dX3_readHead_61 : decode cX3_readHead 61 = .ok (.getfield 12, 3) := by decide +kernel
theorem dX3_readHead_64 : decode cX3_readHead 64 = .ok (.aload_n 0, 1) := by decide +kernel
theorem dX3_readHead_65 : decode cX3_readHead 65 = .ok (.getfield 99, 3) := by decide +kernel
theorem dX3_readHead_68 : decode cX3_readHead 68 = .ok (.putfield 106, 3) := by decide +kernel
theorem dX3_readHead_71 : decode cX3_readHead 71 = .ok (.aload_n 0, 1) := by decide +kernel
theorem dX3_readHead_72 : decode cX3_readHead 72 = .ok (.ldc 108, 2) := by decide +kernel
theorem dX3_readHead_74 : decode cX3_readHead 74 = .ok (.invokevirtual 92, 3) := by decide +kernel
theorem dX3_readHead_77 : decode cX3_readHead 77 = .ok (.ifCond .eq 14, 3) := by decide +kernel
theorem dX3_readHead_80 : decode cX3_readHead 80 = .ok (.aload_n 0, 1) := by decide +kernel
theorem dX3_readHead_81 : decode cX3_readHead 81 = .ok (.iconst 1, 1) := by decide +kernel
theorem dX3_readHead_82 : decode cX3_readHead 82 = .ok (.sipush 200, 3) := by decide +kernel
theorem dX3_readHead_85 : decode cX3_readHead 85 = .ok (.invokevirtual 95, 3) := by decide +kernel
theorem dX3_readHead_88 : decode cX3_readHead 88 = .ok (.ifCond .ne 5, 3) := by decide +kernel
theorem dX3_readHead_91 : decode cX3_readHead 91 = .ok (.iconst 0, 1) := by decide +kernel
theorem dX3_readHead_92 : decode cX3_readHead 92 = .ok (.ireturn, 1) := by decide +kernel
theorem dX3_readHead_93 : decode cX3_readHead 93 = .ok (.aload_n 0, 1) := by decide +kernel
theorem dX3_readHead_94 : decode cX3_readHead 94 = .ok (.getfield 12, 3) := by decide +kernel
theorem dX3_readHead_97 : decode cX3_readHead 97 = .ok (.aload_n 0, 1) := by decide +kernel
theorem dX3_readHead_98 : decode cX3_readHead 98 = .ok (.getfield 99, 3) := by decide +kernel
theorem dX3_readHead_101 : decode cX3_readHead 101 = .ok (.putfield 110, 3) := by decide +kernel
theorem dX3_readHead_104 : decode cX3_readHead 104 = .ok (.iconst 1, 1) := by decide +kernel
theorem dX3_readHead_105 : decode cX3_readHead 105 = .ok (.ireturn, 1) := by decide +kernel
theorem dX3_readBoard_0 : decode cX3_readBoard 0 = .ok (.aload_n 0, 1) := by decide +kernel
theorem dX3_readBoard_1 : decode cX3_readBoard 1 = .ok (.invokevirtual 112, 3) := by decide +kernel
theorem dX3_readBoard_4 : decode cX3_readBoard 4 = .ok (.ifCond .ne 5, 3) := by decide +kernel
theorem dX3_readBoard_7 : decode cX3_readBoard 7 = .ok (.iconst 0, 1) := by decide +kernel
theorem dX3_readBoard_8 : decode cX3_readBoard 8 = .ok (.ireturn, 1) := by decide +kernel
theorem dX3_readBoard_9 : decode cX3_readBoard 9 = .ok (.aload_n 0, 1) := by decide +kernel
theorem dX3_readBoard_10 : decode cX3_readBoard 10 = .ok (.getfield 99, 3) := by decide +kernel
theorem dX3_readBoard_13 : decode cX3_readBoard 13 = .ok (.istore_n 1, 1) := by decide +kernel
theorem dX3_readBoard_14 : decode cX3_readBoard 14 = .ok (.aload_n 0, 1) := by decide +kernel
theorem dX3_readBoard_15 : decode cX3_readBoard 15 = .ok (.getfield 12, 3) := by decide +kernel
theorem dX3_readBoard_18 : decode cX3_readBoard 18 = .ok (.iload_n 1, 1) := by decide +kernel
theorem dX3_readBoard_19 : decode cX3_readBoard 19 = .ok (.invokevirtual 115, 3) := by decide +kernel
theorem dX3_readBoard_22 : decode cX3_readBoard 22 = .ok (.iconst (-1), 1) := by decide +kernel
theorem dX3_readBoard_23 : decode cX3_readBoard 23 = .ok (.if_icmp .eq 9, 3) := by decide +kernel
theorem dX3_readBoard_26 : decode cX3_readBoard 26 = .ok (.aload_n 0, 1) := by decide +kernel
theorem dX3_readBoard_27 : decode cX3_readBoard 27 = .ok (.iconst 3, 1) := by decide +kernel
theorem dX3_readBoard_28 : decode cX3_readBoard 28 = .ok (.invokevirtual 60, 3) := by decide +kernel
theorem dX3_readBoard_31 : decode cX3_readBoard 31 = .ok (.ireturn, 1) := by decide +kernel
theorem dX3_readBoard_32 : decode cX3_readBoard 32 = .ok (.aload_n 0, 1) := by decide +kernel
theorem dX3_readBoard_33 : decode cX3_readBoard 33 = .ok (.ldc 119, 2) := by decide +kernel
theorem dX3_readBoard_35 : decode cX3_readBoard 35 = .ok (.invokevirtual 92, 3) := by decide +kernel
theorem dX3_readBoard_38 : decode cX3_readBoard 38 = .ok (.ifCond .eq 13, 3) := by decide +kernel
theorem dX3_readBoard_41 : decode cX3_readBoard 41 = .ok (.aload_n 0, 1) := by decide +kernel
theorem dX3_readBoard_42 : decode cX3_readBoard 42 = .ok (.iconst 0, 1) := by decide +kernel
theorem dX3_readBoard_43 : decode cX3_readBoard 43 = .ok (.bipush 9, 2) := by decide +kernel
theorem dX3_readBoard_45 : decode cX3_readBoard 45 = .ok (.invokevirtual 95, 3) := by decide +kernel
theorem dX3_readBoard_48 : decode cX3_readBoard 48 = .ok (.ifCond .ne 5, 3) := by decide +kernel
theorem dX3_readBoard_51 : decode cX3_readBoard 51 = .ok (.iconst 0, 1) := by decide +kernel
theorem dX3_readBoard_52 : decode cX3_readBoard 52 = .ok (.ireturn, 1) := by decide +kernel
theorem dX3_readBoard_53 : decode cX3_readBoard 53 = .ok (.aload_n 0, 1) := by decide +kernel
theorem dX3_readBoard_54 : decode cX3_readBoard 54 = .ok (.getfield 99, 3) := by decide +kernel
theorem dX3_readBoard_57 : decode cX3_readBoard 57 = .ok (.istore_n 2, 1) := by decide +kernel
theorem dX3_readBoard_58 : decode cX3_readBoard 58 = .ok (.aload_n 0, 1) := by decide +kernel
theorem dX3_readBoard_59 : decode cX3_readBoard 59 = .ok (.getfield 12, 3) := by decide +kernel
theorem dX3_readBoard_62 : decode cX3_readBoard 62 = .ok (.iload_n 2, 1) := by decide +kernel
theorem dX3_readBoard_63 : decode cX3_readBoard 63 = .ok (.invokevirtual 121, 3) := by decide +kernel
theorem dX3_readBoard_66 : decode cX3_readBoard 66 = .ok (.iconst (-1), 1) := by decide +kernel
theorem dX3_readBoard_67 : decode cX3_readBoard 67 = .ok (.if_icmp .eq 9, 3) := by decide +kernel
theorem dX3_readBoard_70 : decode cX3_readBoard 70 = .ok (.aload_n 0, 1) := by decide +kernel
theorem dX3_readBoard_71 : decode cX3_readBoard 71 = .ok (.iconst 3, 1) := by decide +kernel
theorem dX3_readBoard_72 : decode cX3_readBoard 72 = .ok (.invokevirtual 60, 3) := by decide +kernel
theorem dX3_readBoard_75 : decode cX3_readBoard 75 = .ok (.ireturn, 1) := by decide +kernel
theorem dX3_readBoard_76 : decode cX3_readBoard 76 = .ok (.aload_n 0, 1) := by decide +kernel
theorem dX3_readBoard_77 : decode cX3_readBoard 77 = .ok (.ldc 124, 2) := by decide +kernel
theorem dX3_readBoard_79 : decode cX3_readBoard 79 = .ok (.invokevirtual 92, 3) := by decide +kernel
theorem dX3_readBoard_82 : decode cX3_readBoard 82 = .ok (.ifCond .eq 13, 3) := by decide +kernel
theorem dX3_readBoard_85 : decode cX3_readBoard 85 = .ok (.aload_n 0, 1) := by decide +kernel
theorem dX3_readBoard_86 : decode cX3_readBoard 86 = .ok (.iconst 1, 1) := by decide +kernel
theorem dX3_readBoard_87 : decode cX3_readBoard 87 = .ok (.bipush 31, 2) := by decide +kernel
theorem dX3_readBoard_89 : decode cX3_readBoard 89 = .ok (.invokevirtual 95, 3) := by decide +kernel
theorem dX3_readBoard_92 : decode cX3_readBoard 92 = .ok (.ifCond .ne 5, 3) := by decide +kernel
theorem dX3_readBoard_95 : decode cX3_readBoard 95 = .ok (.iconst 0, 1) := by decide +kernel
theorem dX3_readBoard_96 : decode cX3_readBoard 96 = .ok (.ireturn, 1) := by decide +kernel
theorem dX3_readBoard_97 : decode cX3_readBoard 97 = .ok (.aload_n 0, 1) := by decide +kernel
theorem dX3_readBoard_98 : decode cX3_readBoard 98 = .ok (.getfield 99, 3) := by decide +kernel
theorem dX3_readBoard_101 : decode cX3_readBoard 101 = .ok (.istore_n 3, 1) := by decide +kernel
theorem dX3_readBoard_102 : decode cX3_readBoard 102 = .ok (.aload_n 0, 1) := by decide +kernel
theorem dX3_readBoard_103 : decode cX3_readBoard 103 = .ok (.getfield 12, 3) := by decide +kernel
theorem dX3_readBoard_106 : decode cX3_readBoard 106 = .ok (.iload_n 3, 1) := by decide +kernel
theorem dX3_readBoard_107 : decode cX3_readBoard 107 = .ok (.invokevirtual 126, 3) := by decide +kernel
theorem dX3_readBoard_110 : decode cX3_readBoard 110 = .ok (.iconst (-1), 1) := by decide +kernel
theorem dX3_readBoard_111 : decode cX3_readBoard 111 = .ok (.if_icmp .eq 9, 3) := by decide +kernel
theorem dX3_readBoard_114 : decode cX3_readBoard 114 = .ok (.aload_n 0, 1) := by decide +kernel
theorem dX3_readBoard_115 : decode cX3_readBoard 115 = .ok (.iconst 3, 1) := by decide +kernel
theorem dX3_readBoard_116 : decode cX3_readBoard 116 = .ok (.invokevirtual 60, 3) := by decide +kernel
theorem dX3_readBoard_119 : decode cX3_readBoard 119 = .ok (.ireturn, 1) := by decide +kernel
theorem dX3_readBoard_120 : decode cX3_readBoard 120 = .ok (.aload_n 0, 1) := by decide +kernel
theorem dX3_readBoard_121 : decode cX3_readBoard 121 = .ok (.ldc 129, 2) := by decide +kernel
theorem dX3_readBoard_123 : decode cX3_readBoard 123 = .ok (.invokevirtual 92, 3) := by decide +kernel
theorem dX3_readBoard_126 : decode cX3_readBoard 126 = .ok (.ifCond .eq 13, 3) := by decide +kernel
theorem dX3_readBoard_129 : decode cX3_readBoard 129 = .ok (.aload_n 0, 1) := by decide +kernel
theorem dX3_readBoard_130 : decode cX3_readBoard 130 = .ok (.iconst 0, 1) := by decide +kernel
theorem dX3_readBoard_131 : decode cX3_readBoard 131 = .ok (.bipush 7, 2) := by decide +kernel
theorem dX3_readBoard_133 : decode cX3_readBoard 133 = .ok (.invokevirtual 95, 3) := by decide +kernel
theorem dX3_readBoard_136 : decode cX3_readBoard 136 = .ok (.ifCond .ne 5, 3) := by decide +kernel
theorem dX3_readBoard_139 : decode cX3_readBoard 139 = .ok (.iconst 0, 1) := by decide +kernel
theorem dX3_readBoard_140 : decode cX3_readBoard 140 = .ok (.ireturn, 1) := by decide +kernel
theorem dX3_readBoard_141 : decode cX3_readBoard 141 = .ok (.aload_n 0, 1) := by decide +kernel
theorem dX3_readBoard_142 : decode cX3_readBoard 142 = .ok (.getfield 12, 3) := by decide +kernel
theorem dX3_readBoard_145 : decode cX3_readBoard 145 = .ok (.iload_n 1, 1) := by decide +kernel
theorem dX3_readBoard_146 : decode cX3_readBoard 146 = .ok (.iload_n 2, 1) := by decide +kernel
theorem dX3_readBoard_147 : decode cX3_readBoard 147 = .ok (.iload_n 3, 1) := by decide +kernel
theorem dX3_readBoard_148 : decode cX3_readBoard 148 = .ok (.aload_n 0, 1) := by decide +kernel
theorem dX3_readBoard_149 : decode cX3_readBoard 149 = .ok (.getfield 99, 3) := by decide +kernel
theorem dX3_readBoard_152 : decode cX3_readBoard 152 = .ok (.invokevirtual 131, 3) := by decide +kernel
theorem dX3_readBoard_155 : decode cX3_readBoard 155 = .ok (.iconst 1, 1) := by decide +kernel
theorem dX3_readBoard_156 : decode cX3_readBoard 156 = .ok (.ireturn, 1) := by decide +kernel
theorem dX3_readAsk_0 : decode cX3_readAsk 0 = .ok (.aload_n 0, 1) := by decide +kernel
theorem dX3_readAsk_1 : decode cX3_readAsk 1 = .ok (.aload_n 0, 1) := by decide +kernel
theorem dX3_readAsk_2 : decode cX3_readAsk 2 = .ok (.getfield 12, 3) := by decide +kernel
theorem dX3_readAsk_5 : decode cX3_readAsk 5 = .ok (.invokevirtual 135, 3) := by decide +kernel
theorem dX3_readAsk_8 : decode cX3_readAsk 8 = .ok (.sipush 999, 3) := by decide +kernel
theorem dX3_readAsk_11 : decode cX3_readAsk 11 = .ok (.invokevirtual 95, 3) := by decide +kernel
theorem dX3_readAsk_14 : decode cX3_readAsk 14 = .ok (.ifCond .ne 5, 3) := by decide +kernel
theorem dX3_readAsk_17 : decode cX3_readAsk 17 = .ok (.iconst 0, 1) := by decide +kernel
theorem dX3_readAsk_18 : decode cX3_readAsk 18 = .ok (.ireturn, 1) := by decide +kernel
theorem dX3_readAsk_19 : decode cX3_readAsk 19 = .ok (.aload_n 0, 1) := by decide +kernel
theorem dX3_readAsk_20 : decode cX3_readAsk 20 = .ok (.getfield 99, 3) := by decide +kernel
theorem dX3_readAsk_23 : decode cX3_readAsk 23 = .ok (.istore_n 1, 1) := by decide +kernel
theorem dX3_readAsk_24 : decode cX3_readAsk 24 = .ok (.aload_n 0, 1) := by decide +kernel
theorem dX3_readAsk_25 : decode cX3_readAsk 25 = .ok (.invokevirtual 112, 3) := by decide +kernel
theorem dX3_readAsk_28 : decode cX3_readAsk 28 = .ok (.ifCond .ne 5, 3) := by decide +kernel
theorem dX3_readAsk_31 : decode cX3_readAsk 31 = .ok (.iconst 0, 1) := by decide +kernel
theorem dX3_readAsk_32 : decode cX3_readAsk 32 = .ok (.ireturn, 1) := by decide +kernel
theorem dX3_readAsk_33 : decode cX3_readAsk 33 = .ok (.aload_n 0, 1) := by decide +kernel
theorem dX3_readAsk_34 : decode cX3_readAsk 34 = .ok (.getfield 12, 3) := by decide +kernel
theorem dX3_readAsk_37 : decode cX3_readAsk 37 = .ok (.aload_n 0, 1) := by decide +kernel
theorem dX3_readAsk_38 : decode cX3_readAsk 38 = .ok (.getfield 99, 3) := by decide +kernel
theorem dX3_readAsk_41 : decode cX3_readAsk 41 = .ok (.invokevirtual 115, 3) := by decide +kernel
theorem dX3_readAsk_44 : decode cX3_readAsk 44 = .ok (.istore_n 2, 1) := by decide +kernel
theorem dX3_readAsk_45 : decode cX3_readAsk 45 = .ok (.iload_n 2, 1) := by decide +kernel
theorem dX3_readAsk_46 : decode cX3_readAsk 46 = .ok (.iconst (-1), 1) := by decide +kernel
theorem dX3_readAsk_47 : decode cX3_readAsk 47 = .ok (.if_icmp .ne 9, 3) := by decide +kernel
theorem dX3_readAsk_50 : decode cX3_readAsk 50 = .ok (.aload_n 0, 1) := by decide +kernel
theorem dX3_readAsk_51 : decode cX3_readAsk 51 = .ok (.iconst 2, 1) := by decide +kernel
theorem dX3_readAsk_52 : decode cX3_readAsk 52 = .ok (.invokevirtual 60, 3) := by decide +kernel
theorem dX3_readAsk_55 : decode cX3_readAsk 55 = .ok (.ireturn, 1) := by decide +kernel
theorem dX3_readAsk_56 : decode cX3_readAsk 56 = .ok (.aload_n 0, 1) := by decide +kernel
theorem dX3_readAsk_57 : decode cX3_readAsk 57 = .ok (.iconst 1, 1) := by decide +kernel
theorem dX3_readAsk_58 : decode cX3_readAsk 58 = .ok (.bipush 99, 2) := by decide +kernel
theorem dX3_readAsk_60 : decode cX3_readAsk 60 = .ok (.invokevirtual 95, 3) := by decide +kernel
theorem dX3_readAsk_63 : decode cX3_readAsk 63 = .ok (.ifCond .ne 5, 3) := by decide +kernel
theorem dX3_readAsk_66 : decode cX3_readAsk 66 = .ok (.iconst 0, 1) := by decide +kernel
theorem dX3_readAsk_67 : decode cX3_readAsk 67 = .ok (.ireturn, 1) := by decide +kernel
theorem dX3_readAsk_68 : decode cX3_readAsk 68 = .ok (.aload_n 0, 1) := by decide +kernel
theorem dX3_readAsk_69 : decode cX3_readAsk 69 = .ok (.getfield 12, 3) := by decide +kernel
theorem dX3_readAsk_72 : decode cX3_readAsk 72 = .ok (.iload_n 1, 1) := by decide +kernel
theorem dX3_readAsk_73 : decode cX3_readAsk 73 = .ok (.iload_n 2, 1) := by decide +kernel
theorem dX3_readAsk_74 : decode cX3_readAsk 74 = .ok (.aload_n 0, 1) := by decide +kernel
theorem dX3_readAsk_75 : decode cX3_readAsk 75 = .ok (.getfield 99, 3) := by decide +kernel
theorem dX3_readAsk_78 : decode cX3_readAsk 78 = .ok (.invokevirtual 139, 3) := by decide +kernel
theorem dX3_readAsk_81 : decode cX3_readAsk 81 = .ok (.iconst 1, 1) := by decide +kernel
theorem dX3_readAsk_82 : decode cX3_readAsk 82 = .ok (.ireturn, 1) := by decide +kernel
theorem dX3_keyword_0 : decode cX3_keyword 0 = .ok (.aload_n 0, 1) := by decide +kernel
theorem dX3_keyword_1 : decode cX3_keyword 1 = .ok (.invokevirtual 51, 3) := by decide +kernel
theorem dX3_keyword_4 : decode cX3_keyword 4 = .ok (.aload_n 0, 1) := by decide +kernel
theorem dX3_keyword_5 : decode cX3_keyword 5 = .ok (.aload_n 1, 1) := by decide +kernel
theorem dX3_keyword_6 : decode cX3_keyword 6 = .ok (.invokevirtual 66, 3) := by decide +kernel
theorem dX3_keyword_9 : decode cX3_keyword 9 = .ok (.ifCond .ne 11, 3) := by decide +kernel
theorem dX3_keyword_12 : decode cX3_keyword 12 = .ok (.aload_n 0, 1) := by decide +kernel
theorem dX3_keyword_13 : decode cX3_keyword 13 = .ok (.iconst 1, 1) := by decide +kernel
theorem dX3_keyword_14 : decode cX3_keyword 14 = .ok (.invokevirtual 60, 3) := by decide +kernel
theorem dX3_keyword_17 : decode cX3_keyword 17 = .ok (.ifCond .eq 7, 3) := by decide +kernel
theorem dX3_keyword_20 : decode cX3_keyword 20 = .ok (.iconst 1, 1) := by decide +kernel
theorem dX3_keyword_21 : decode cX3_keyword 21 = .ok (.goto 4, 3) := by decide +kernel
theorem dX3_keyword_24 : decode cX3_keyword 24 = .ok (.iconst 0, 1) := by decide +kernel
theorem dX3_keyword_25 : decode cX3_keyword 25 = .ok (.ireturn, 1) := by decide +kernel
theorem dX3_name_0 : decode cX3_name 0 = .ok (.aload_n 0, 1) := by decide +kernel
theorem dX3_name_1 : decode cX3_name 1 = .ok (.invokevirtual 51, 3) := by decide +kernel
theorem dX3_name_4 : decode cX3_name 4 = .ok (.aload_n 0, 1) := by decide +kernel
theorem dX3_name_5 : decode cX3_name 5 = .ok (.ldc 64, 2) := by decide +kernel
theorem dX3_name_7 : decode cX3_name 7 = .ok (.invokevirtual 66, 3) := by decide +kernel
theorem dX3_name_10 : decode cX3_name 10 = .ok (.ifCond .ne 21, 3) := by decide +kernel
theorem dX3_name_13 : decode cX3_name 13 = .ok (.aload_n 0, 1) := by decide +kernel
theorem dX3_name_14 : decode cX3_name 14 = .ok (.ldc 77, 2) := by decide +kernel
theorem dX3_name_16 : decode cX3_name 16 = .ok (.invokevirtual 66, 3) := by decide +kernel
theorem dX3_name_19 : decode cX3_name 19 = .ok (.ifCond .ne 12, 3) := by decide +kernel
theorem dX3_name_22 : decode cX3_name 22 = .ok (.aload_n 0, 1) := by decide +kernel
theorem dX3_name_23 : decode cX3_name 23 = .ok (.ldc 79, 2) := by decide +kernel
theorem dX3_name_25 : decode cX3_name 25 = .ok (.invokevirtual 66, 3) := by decide +kernel
theorem dX3_name_28 : decode cX3_name 28 = .ok (.ifCond .eq 7, 3) := by decide +kernel
theorem dX3_name_31 : decode cX3_name 31 = .ok (.iconst 1, 1) := by decide +kernel
theorem dX3_name_32 : decode cX3_name 32 = .ok (.goto 4, 3) := by decide +kernel
theorem dX3_name_35 : decode cX3_name 35 = .ok (.iconst 0, 1) := by decide +kernel
theorem dX3_name_36 : decode cX3_name 36 = .ok (.istore_n 1, 1) := by decide +kernel
theorem dX3_name_37 : decode cX3_name 37 = .ok (.aload_n 0, 1) := by decide +kernel
theorem dX3_name_38 : decode cX3_name 38 = .ok (.getfield 54, 3) := by decide +kernel
theorem dX3_name_41 : decode cX3_name 41 = .ok (.iconst 1, 1) := by decide +kernel
theorem dX3_name_42 : decode cX3_name 42 = .ok (.if_icmp .ne 7, 3) := by decide +kernel
theorem dX3_name_45 : decode cX3_name 45 = .ok (.iload_n 1, 1) := by decide +kernel
theorem dX3_name_46 : decode cX3_name 46 = .ok (.ifCond .eq 11, 3) := by decide +kernel
theorem dX3_name_49 : decode cX3_name 49 = .ok (.aload_n 0, 1) := by decide +kernel
theorem dX3_name_50 : decode cX3_name 50 = .ok (.iconst 1, 1) := by decide +kernel
theorem dX3_name_51 : decode cX3_name 51 = .ok (.invokevirtual 60, 3) := by decide +kernel
theorem dX3_name_54 : decode cX3_name 54 = .ok (.ifCond .eq 7, 3) := by decide +kernel
theorem dX3_name_57 : decode cX3_name 57 = .ok (.iconst 1, 1) := by decide +kernel
theorem dX3_name_58 : decode cX3_name 58 = .ok (.goto 4, 3) := by decide +kernel
theorem dX3_name_61 : decode cX3_name 61 = .ok (.iconst 0, 1) := by decide +kernel
theorem dX3_name_62 : decode cX3_name 62 = .ok (.ireturn, 1) := by decide +kernel
theorem dX3_whole_0 : decode cX3_whole 0 = .ok (.aload_n 0, 1) := by decide +kernel
theorem dX3_whole_1 : decode cX3_whole 1 = .ok (.invokevirtual 51, 3) := by decide +kernel
theorem dX3_whole_4 : decode cX3_whole 4 = .ok (.aload_n 0, 1) := by decide +kernel
theorem dX3_whole_5 : decode cX3_whole 5 = .ok (.getfield 54, 3) := by decide +kernel
theorem dX3_whole_8 : decode cX3_whole 8 = .ok (.iconst 2, 1) := by decide +kernel
theorem dX3_whole_9 : decode cX3_whole 9 = .ok (.if_icmp .eq 9, 3) := by decide +kernel
theorem dX3_whole_12 : decode cX3_whole 12 = .ok (.aload_n 0, 1) := by decide +kernel
theorem dX3_whole_13 : decode cX3_whole 13 = .ok (.iconst 1, 1) := by decide +kernel
theorem dX3_whole_14 : decode cX3_whole 14 = .ok (.invokevirtual 60, 3) := by decide +kernel
theorem dX3_whole_17 : decode cX3_whole 17 = .ok (.ireturn, 1) := by decide +kernel
theorem dX3_whole_18 : decode cX3_whole 18 = .ok (.aload_n 0, 1) := by decide +kernel
theorem dX3_whole_19 : decode cX3_whole 19 = .ok (.getfield 99, 3) := by decide +kernel
theorem dX3_whole_22 : decode cX3_whole 22 = .ok (.iload_n 1, 1) := by decide +kernel
theorem dX3_whole_23 : decode cX3_whole 23 = .ok (.if_icmp .lt 11, 3) := by decide +kernel
theorem dX3_whole_26 : decode cX3_whole 26 = .ok (.aload_n 0, 1) := by decide +kernel
theorem dX3_whole_27 : decode cX3_whole 27 = .ok (.getfield 99, 3) := by decide +kernel
theorem dX3_whole_30 : decode cX3_whole 30 = .ok (.iload_n 2, 1) := by decide +kernel
theorem dX3_whole_31 : decode cX3_whole 31 = .ok (.if_icmp .le 11, 3) := by decide +kernel
theorem dX3_whole_34 : decode cX3_whole 34 = .ok (.aload_n 0, 1) := by decide +kernel
theorem dX3_whole_35 : decode cX3_whole 35 = .ok (.iconst 4, 1) := by decide +kernel
theorem dX3_whole_36 : decode cX3_whole 36 = .ok (.invokevirtual 60, 3) := by decide +kernel
theorem dX3_whole_39 : decode cX3_whole 39 = .ok (.ifCond .eq 7, 3) := by decide +kernel
theorem dX3_whole_42 : decode cX3_whole 42 = .ok (.iconst 1, 1) := by decide +kernel
theorem dX3_whole_43 : decode cX3_whole 43 = .ok (.goto 4, 3) := by decide +kernel
theorem dX3_whole_46 : decode cX3_whole 46 = .ok (.iconst 0, 1) := by decide +kernel
theorem dX3_whole_47 : decode cX3_whole 47 = .ok (.ireturn, 1) := by decide +kernel
theorem dX3_isWord_0 : decode cX3_isWord 0 = .ok (.aload_n 0, 1) := by decide +kernel
theorem dX3_isWord_1 : decode cX3_isWord 1 = .ok (.getfield 54, 3) := by decide +kernel
theorem dX3_isWord_4 : decode cX3_isWord 4 = .ok (.iconst 1, 1) := by decide +kernel
theorem dX3_isWord_5 : decode cX3_isWord 5 = .ok (.if_icmp .ne 18, 3) := by decide +kernel
theorem dX3_isWord_8 : decode cX3_isWord 8 = .ok (.aload_n 0, 1) := by decide +kernel
theorem dX3_isWord_9 : decode cX3_isWord 9 = .ok (.getfield 99, 3) := by decide +kernel
theorem dX3_isWord_12 : decode cX3_isWord 12 = .ok (.aload_n 1, 1) := by decide +kernel
theorem dX3_isWord_13 : decode cX3_isWord 13 = .ok (.invokestatic 143, 3) := by decide +kernel
theorem dX3_isWord_16 : decode cX3_isWord 16 = .ok (.if_icmp .ne 7, 3) := by decide +kernel
theorem dX3_isWord_19 : decode cX3_isWord 19 = .ok (.iconst 1, 1) := by decide +kernel
theorem dX3_isWord_20 : decode cX3_isWord 20 = .ok (.goto 4, 3) := by decide +kernel
theorem dX3_isWord_23 : decode cX3_isWord 23 = .ok (.iconst 0, 1) := by decide +kernel
theorem dX3_isWord_24 : decode cX3_isWord 24 = .ok (.ireturn, 1) := by decide +kernel
theorem dX3_fail_0 : decode cX3_fail 0 = .ok (.aload_n 0, 1) := by decide +kernel
theorem dX3_fail_1 : decode cX3_fail 1 = .ok (.iload_n 1, 1) := by decide +kernel
theorem dX3_fail_2 : decode cX3_fail 2 = .ok (.putfield 35, 3) := by decide +kernel
theorem dX3_fail_5 : decode cX3_fail 5 = .ok (.aload_n 0, 1) := by decide +kernel
theorem dX3_fail_6 : decode cX3_fail 6 = .ok (.aload_n 0, 1) := by decide +kernel
theorem dX3_fail_7 : decode cX3_fail 7 = .ok (.getfield 147, 3) := by decide +kernel
theorem dX3_fail_10 : decode cX3_fail 10 = .ok (.putfield 38, 3) := by decide +kernel
theorem dX3_fail_13 : decode cX3_fail 13 = .ok (.iconst 0, 1) := by decide +kernel
theorem dX3_fail_14 : decode cX3_fail 14 = .ok (.ireturn, 1) := by decide +kernel
theorem dX3_step_0 : decode cX3_step 0 = .ok (.aload_n 0, 1) := by decide +kernel
theorem dX3_step_1 : decode cX3_step 1 = .ok (.getfield 32, 3) := by decide +kernel
theorem dX3_step_4 : decode cX3_step 4 = .ok (.aload_n 0, 1) := by decide +kernel
theorem dX3_step_5 : decode cX3_step 5 = .ok (.getfield 28, 3) := by decide +kernel
theorem dX3_step_8 : decode cX3_step 8 = .ok (.if_icmp .ge 32, 3) := by decide +kernel
theorem dX3_step_11 : decode cX3_step 11 = .ok (.aload_n 0, 1) := by decide +kernel
theorem dX3_step_12 : decode cX3_step 12 = .ok (.getfield 18, 3) := by decide +kernel
theorem dX3_step_15 : decode cX3_step 15 = .ok (.aload_n 0, 1) := by decide +kernel
theorem dX3_step_16 : decode cX3_step 16 = .ok (.getfield 32, 3) := by decide +kernel
theorem dX3_step_19 : decode cX3_step 19 = .ok (.invokevirtual 150, 3) := by decide +kernel
theorem dX3_step_22 : decode cX3_step 22 = .ok (.bipush 32, 2) := by decide +kernel
theorem dX3_step_24 : decode cX3_step 24 = .ok (.if_icmp .ne 16, 3) := by decide +kernel
theorem dX3_step_27 : decode cX3_step 27 = .ok (.aload_n 0, 1) := by decide +kernel
theorem dX3_step_28 : decode cX3_step 28 = .ok (.dup, 1) := by decide +kernel
theorem dX3_step_29 : decode cX3_step 29 = .ok (.getfield 32, 3) := by decide +kernel
theorem dX3_step_32 : decode cX3_step 32 = .ok (.iconst 1, 1) := by decide +kernel
theorem dX3_step_33 : decode cX3_step 33 = .ok (.iadd, 1) := by decide +kernel
theorem dX3_step_34 : decode cX3_step 34 = .ok (.putfield 32, 3) := by decide +kernel
theorem dX3_step_37 : decode cX3_step 37 = .ok (.goto (-37), 3) := by decide +kernel
theorem dX3_step_40 : decode cX3_step 40 = .ok (.aload_n 0, 1) := by decide +kernel
theorem dX3_step_41 : decode cX3_step 41 = .ok (.aload_n 0, 1) := by decide +kernel
theorem dX3_step_42 : decode cX3_step 42 = .ok (.getfield 32, 3) := by decide +kernel
theorem dX3_step_45 : decode cX3_step 45 = .ok (.putfield 147, 3) := by decide +kernel
theorem dX3_step_48 : decode cX3_step 48 = .ok (.aload_n 0, 1) := by decide +kernel
theorem dX3_step_49 : decode cX3_step 49 = .ok (.iconst 0, 1) := by decide +kernel
theorem dX3_step_50 : decode cX3_step 50 = .ok (.putfield 99, 3) := by decide +kernel
theorem dX3_step_53 : decode cX3_step 53 = .ok (.aload_n 0, 1) := by decide +kernel
theorem dX3_step_54 : decode cX3_step 54 = .ok (.getfield 32, 3) := by decide +kernel
theorem dX3_step_57 : decode cX3_step 57 = .ok (.aload_n 0, 1) := by decide +kernel
theorem dX3_step_58 : decode cX3_step 58 = .ok (.getfield 28, 3) := by decide +kernel
theorem dX3_step_61 : decode cX3_step 61 = .ok (.if_icmp .lt 11, 3) := by decide +kernel
theorem dX3_step_64 : decode cX3_step 64 = .ok (.aload_n 0, 1) := by decide +kernel
theorem dX3_step_65 : decode cX3_step 65 = .ok (.iconst 0, 1) := by decide +kernel
theorem dX3_step_66 : decode cX3_step 66 = .ok (.putfield 54, 3) := by decide +kernel
theorem dX3_step_69 : decode cX3_step 69 = .ok (.goto 86, 3) := by decide +kernel
theorem dX3_step_72 : decode cX3_step 72 = .ok (.aload_n 0, 1) := by decide +kernel
theorem dX3_step_73 : decode cX3_step 73 = .ok (.getfield 18, 3) := by decide +kernel
theorem dX3_step_76 : decode cX3_step 76 = .ok (.aload_n 0, 1) := by decide +kernel
theorem dX3_step_77 : decode cX3_step 77 = .ok (.getfield 32, 3) := by decide +kernel
theorem dX3_step_80 : decode cX3_step 80 = .ok (.invokevirtual 150, 3) := by decide +kernel
theorem dX3_step_83 : decode cX3_step 83 = .ok (.invokestatic 155, 3) := by decide +kernel
theorem dX3_step_86 : decode cX3_step 86 = .ok (.ifCond .eq 10, 3) := by decide +kernel
theorem dX3_step_89 : decode cX3_step 89 = .ok (.aload_n 0, 1) := by decide +kernel
theorem dX3_step_90 : decode cX3_step 90 = .ok (.invokevirtual 158, 3) := by decide +kernel
theorem dX3_step_93 : decode cX3_step 93 = .ok (.goto 62, 3) := by decide +kernel
theorem dX3_step_96 : decode cX3_step 96 = .ok (.aload_n 0, 1) := by decide +kernel
theorem dX3_step_97 : decode cX3_step 97 = .ok (.getfield 18, 3) := by decide +kernel
theorem dX3_step_100 : decode cX3_step 100 = .ok (.aload_n 0, 1) := by decide +kernel
theorem dX3_step_101 : decode cX3_step 101 = .ok (.getfield 32, 3) := by decide +kernel
theorem dX3_step_104 : decode cX3_step 104 = .ok (.invokevirtual 150, 3) := by decide +kernel
theorem dX3_step_107 : decode cX3_step 107 = .ok (.invokestatic 161, 3) := by decide +kernel
theorem dX3_step_110 : decode cX3_step 110 = .ok (.ifCond .eq 10, 3) := by decide +kernel
theorem dX3_step_113 : decode cX3_step 113 = .ok (.aload_n 0, 1) := by decide +kernel
theorem dX3_step_114 : decode cX3_step 114 = .ok (.invokevirtual 164, 3) := by decide +kernel
theorem dX3_step_117 : decode cX3_step 117 = .ok (.goto 38, 3) := by decide +kernel
theorem dX3_step_120 : decode cX3_step 120 = .ok (.aload_n 0, 1) := by decide +kernel
theorem dX3_step_121 : decode cX3_step 121 = .ok (.aload_n 0, 1) := by decide +kernel
theorem dX3_step_122 : decode cX3_step 122 = .ok (.getfield 18, 3) := by decide +kernel
theorem dX3_step_125 : decode cX3_step 125 = .ok (.aload_n 0, 1) := by decide +kernel
theorem dX3_step_126 : decode cX3_step 126 = .ok (.getfield 32, 3) := by decide +kernel
theorem dX3_step_129 : decode cX3_step 129 = .ok (.invokevirtual 150, 3) := by decide +kernel
theorem dX3_step_132 : decode cX3_step 132 = .ok (.bipush 59, 2) := by decide +kernel
theorem dX3_step_134 : decode cX3_step 134 = .ok (.if_icmp .ne 7, 3) := by decide +kernel
theorem dX3_step_137 : decode cX3_step 137 = .ok (.iconst 3, 1) := by decide +kernel
theorem dX3_step_138 : decode cX3_step 138 = .ok (.goto 4, 3) := by decide +kernel
theorem dX3_step_141 : decode cX3_step 141 = .ok (.iconst 4, 1) := by decide +kernel
theorem dX3_step_142 : decode cX3_step 142 = .ok (.putfield 54, 3) := by decide +kernel
theorem dX3_step_145 : decode cX3_step 145 = .ok (.aload_n 0, 1) := by decide +kernel
theorem dX3_step_146 : decode cX3_step 146 = .ok (.dup, 1) := by decide +kernel
theorem dX3_step_147 : decode cX3_step 147 = .ok (.getfield 32, 3) := by decide +kernel
theorem dX3_step_150 : decode cX3_step 150 = .ok (.iconst 1, 1) := by decide +kernel
theorem dX3_step_151 : decode cX3_step 151 = .ok (.iadd, 1) := by decide +kernel
theorem dX3_step_152 : decode cX3_step 152 = .ok (.putfield 32, 3) := by decide +kernel
theorem dX3_step_155 : decode cX3_step 155 = .ok (.return_, 1) := by decide +kernel
theorem dX3_stepOverWord_0 : decode cX3_stepOverWord 0 = .ok (.aload_n 0, 1) := by decide +kernel
theorem dX3_stepOverWord_1 : decode cX3_stepOverWord 1 = .ok (.getfield 32, 3) := by decide +kernel
theorem dX3_stepOverWord_4 : decode cX3_stepOverWord 4 = .ok (.aload_n 0, 1) := by decide +kernel
theorem dX3_stepOverWord_5 : decode cX3_stepOverWord 5 = .ok (.getfield 28, 3) := by decide +kernel
theorem dX3_stepOverWord_8 : decode cX3_stepOverWord 8 = .ok (.if_icmp .ge 59, 3) := by decide +kernel
theorem dX3_stepOverWord_11 : decode cX3_stepOverWord 11 = .ok (.aload_n 0, 1) := by decide +kernel
theorem dX3_stepOverWord_12 : decode cX3_stepOverWord 12 = .ok (.getfield 18, 3) := by decide +kernel
theorem dX3_stepOverWord_15 : decode cX3_stepOverWord 15 = .ok (.aload_n 0, 1) := by decide +kernel
theorem dX3_stepOverWord_16 : decode cX3_stepOverWord 16 = .ok (.getfield 32, 3) := by decide +kernel
theorem dX3_stepOverWord_19 : decode cX3_stepOverWord 19 = .ok (.invokevirtual 150, 3) := by decide +kernel
theorem dX3_stepOverWord_22 : decode cX3_stepOverWord 22 = .ok (.invokestatic 155, 3) := by decide +kernel
theorem dX3_stepOverWord_25 : decode cX3_stepOverWord 25 = .ok (.ifCond .eq 42, 3) := by decide +kernel
theorem dX3_stepOverWord_28 : decode cX3_stepOverWord 28 = .ok (.aload_n 0, 1) := by decide +kernel
theorem dX3_stepOverWord_29 : decode cX3_stepOverWord 29 = .ok (.aload_n 0, 1) := by decide +kernel
theorem dX3_stepOverWord_30 : decode cX3_stepOverWord 30 = .ok (.getfield 99, 3) := by decide +kernel
theorem dX3_stepOverWord_33 : decode cX3_stepOverWord 33 = .ok (.bipush 27, 2) := by decide +kernel
theorem dX3_stepOverWord_35 : decode cX3_stepOverWord 35 = .ok (.imul, 1) := by decide +kernel
theorem dX3_stepOverWord_36 : decode cX3_stepOverWord 36 = .ok (.aload_n 0, 1) := by decide +kernel
theorem dX3_stepOverWord_37 : decode cX3_stepOverWord 37 = .ok (.getfield 18, 3) := by decide +kernel
theorem dX3_stepOverWord_40 : decode cX3_stepOverWord 40 = .ok (.aload_n 0, 1) := by decide +kernel
theorem dX3_stepOverWord_41 : decode cX3_stepOverWord 41 = .ok (.getfield 32, 3) := by decide +kernel
theorem dX3_stepOverWord_44 : decode cX3_stepOverWord 44 = .ok (.invokevirtual 150, 3) := by decide +kernel
theorem dX3_stepOverWord_47 : decode cX3_stepOverWord 47 = .ok (.invokestatic 167, 3) := by decide +kernel
theorem dX3_stepOverWord_50 : decode cX3_stepOverWord 50 = .ok (.iadd, 1) := by decide +kernel
theorem dX3_stepOverWord_51 : decode cX3_stepOverWord 51 = .ok (.putfield 99, 3) := by decide +kernel
theorem dX3_stepOverWord_54 : decode cX3_stepOverWord 54 = .ok (.aload_n 0, 1) := by decide +kernel
theorem dX3_stepOverWord_55 : decode cX3_stepOverWord 55 = .ok (.dup, 1) := by decide +kernel
theorem dX3_stepOverWord_56 : decode cX3_stepOverWord 56 = .ok (.getfield 32, 3) := by decide +kernel
theorem dX3_stepOverWord_59 : decode cX3_stepOverWord 59 = .ok (.iconst 1, 1) := by decide +kernel
theorem dX3_stepOverWord_60 : decode cX3_stepOverWord 60 = .ok (.iadd, 1) := by decide +kernel
theorem dX3_stepOverWord_61 : decode cX3_stepOverWord 61 = .ok (.putfield 32, 3) := by decide +kernel
theorem dX3_stepOverWord_64 : decode cX3_stepOverWord 64 = .ok (.goto (-64), 3) := by decide +kernel
theorem dX3_stepOverWord_67 : decode cX3_stepOverWord 67 = .ok (.aload_n 0, 1) := by decide +kernel
theorem dX3_stepOverWord_68 : decode cX3_stepOverWord 68 = .ok (.aload_n 0, 1) := by decide +kernel
theorem dX3_stepOverWord_69 : decode cX3_stepOverWord 69 = .ok (.getfield 32, 3) := by decide +kernel
theorem dX3_stepOverWord_72 : decode cX3_stepOverWord 72 = .ok (.aload_n 0, 1) := by decide +kernel
theorem dX3_stepOverWord_73 : decode cX3_stepOverWord 73 = .ok (.getfield 147, 3) := by decide +kernel
theorem dX3_stepOverWord_76 : decode cX3_stepOverWord 76 = .ok (.isub, 1) := by decide +kernel
theorem dX3_stepOverWord_77 : decode cX3_stepOverWord 77 = .ok (.bipush 6, 2) := by decide +kernel
theorem dX3_stepOverWord_79 : decode cX3_stepOverWord 79 = .ok (.if_icmp .gt 7, 3) := by decide +kernel
theorem dX3_stepOverWord_82 : decode cX3_stepOverWord 82 = .ok (.iconst 1, 1) := by decide +kernel
theorem dX3_stepOverWord_83 : decode cX3_stepOverWord 83 = .ok (.goto 4, 3) := by decide +kernel
theorem dX3_stepOverWord_86 : decode cX3_stepOverWord 86 = .ok (.iconst 4, 1) := by decide +kernel
theorem dX3_stepOverWord_87 : decode cX3_stepOverWord 87 = .ok (.putfield 54, 3) := by decide +kernel
theorem dX3_stepOverWord_90 : decode cX3_stepOverWord 90 = .ok (.return_, 1) := by decide +kernel
theorem dX3_stepOverWhole_0 : decode cX3_stepOverWhole 0 = .ok (.aload_n 0, 1) := by decide +kernel
theorem dX3_stepOverWhole_1 : decode cX3_stepOverWhole 1 = .ok (.getfield 32, 3) := by decide +kernel
theorem dX3_stepOverWhole_4 : decode cX3_stepOverWhole 4 = .ok (.aload_n 0, 1) := by decide +kernel
theorem dX3_stepOverWhole_5 : decode cX3_stepOverWhole 5 = .ok (.getfield 28, 3) := by decide +kernel
theorem dX3_stepOverWhole_8 : decode cX3_stepOverWhole 8 = .ok (.if_icmp .ge 59, 3) := by decide +kernel
theorem dX3_stepOverWhole_11 : decode cX3_stepOverWhole 11 = .ok (.aload_n 0, 1) := by decide +kernel
theorem dX3_stepOverWhole_12 : decode cX3_stepOverWhole 12 = .ok (.getfield 18, 3) := by decide +kernel
theorem dX3_stepOverWhole_15 : decode cX3_stepOverWhole 15 = .ok (.aload_n 0, 1) := by decide +kernel
theorem dX3_stepOverWhole_16 : decode cX3_stepOverWhole 16 = .ok (.getfield 32, 3) := by decide +kernel
theorem dX3_stepOverWhole_19 : decode cX3_stepOverWhole 19 = .ok (.invokevirtual 150, 3) := by decide +kernel
theorem dX3_stepOverWhole_22 : decode cX3_stepOverWhole 22 = .ok (.invokestatic 161, 3) := by decide +kernel
theorem dX3_stepOverWhole_25 : decode cX3_stepOverWhole 25 = .ok (.ifCond .eq 42, 3) := by decide +kernel
theorem dX3_stepOverWhole_28 : decode cX3_stepOverWhole 28 = .ok (.aload_n 0, 1) := by decide +kernel
theorem dX3_stepOverWhole_29 : decode cX3_stepOverWhole 29 = .ok (.aload_n 0, 1) := by decide +kernel
theorem dX3_stepOverWhole_30 : decode cX3_stepOverWhole 30 = .ok (.getfield 99, 3) := by decide +kernel
theorem dX3_stepOverWhole_33 : decode cX3_stepOverWhole 33 = .ok (.bipush 10, 2) := by decide +kernel
theorem dX3_stepOverWhole_35 : decode cX3_stepOverWhole 35 = .ok (.imul, 1) := by decide +kernel
theorem dX3_stepOverWhole_36 : decode cX3_stepOverWhole 36 = .ok (.aload_n 0, 1) := by decide +kernel
theorem dX3_stepOverWhole_37 : decode cX3_stepOverWhole 37 = .ok (.getfield 18, 3) := by decide +kernel
theorem dX3_stepOverWhole_40 : decode cX3_stepOverWhole 40 = .ok (.aload_n 0, 1) := by decide +kernel
theorem dX3_stepOverWhole_41 : decode cX3_stepOverWhole 41 = .ok (.getfield 32, 3) := by decide +kernel
theorem dX3_stepOverWhole_44 : decode cX3_stepOverWhole 44 = .ok (.invokevirtual 150, 3) := by decide +kernel
theorem dX3_stepOverWhole_47 : decode cX3_stepOverWhole 47 = .ok (.iadd, 1) := by decide +kernel
theorem dX3_stepOverWhole_48 : decode cX3_stepOverWhole 48 = .ok (.bipush 48, 2) := by decide +kernel
theorem dX3_stepOverWhole_50 : decode cX3_stepOverWhole 50 = .ok (.isub, 1) := by decide +kernel
theorem dX3_stepOverWhole_51 : decode cX3_stepOverWhole 51 = .ok (.putfield 99, 3) := by decide +kernel
theorem dX3_stepOverWhole_54 : decode cX3_stepOverWhole 54 = .ok (.aload_n 0, 1) := by decide +kernel
theorem dX3_stepOverWhole_55 : decode cX3_stepOverWhole 55 = .ok (.dup, 1) := by decide +kernel
theorem dX3_stepOverWhole_56 : decode cX3_stepOverWhole 56 = .ok (.getfield 32, 3) := by decide +kernel
theorem dX3_stepOverWhole_59 : decode cX3_stepOverWhole 59 = .ok (.iconst 1, 1) := by decide +kernel
theorem dX3_stepOverWhole_60 : decode cX3_stepOverWhole 60 = .ok (.iadd, 1) := by decide +kernel
theorem dX3_stepOverWhole_61 : decode cX3_stepOverWhole 61 = .ok (.putfield 32, 3) := by decide +kernel
theorem dX3_stepOverWhole_64 : decode cX3_stepOverWhole 64 = .ok (.goto (-64), 3) := by decide +kernel
theorem dX3_stepOverWhole_67 : decode cX3_stepOverWhole 67 = .ok (.aload_n 0, 1) := by decide +kernel
theorem dX3_stepOverWhole_68 : decode cX3_stepOverWhole 68 = .ok (.aload_n 0, 1) := by decide +kernel
theorem dX3_stepOverWhole_69 : decode cX3_stepOverWhole 69 = .ok (.getfield 32, 3) := by decide +kernel
theorem dX3_stepOverWhole_72 : decode cX3_stepOverWhole 72 = .ok (.aload_n 0, 1) := by decide +kernel
theorem dX3_stepOverWhole_73 : decode cX3_stepOverWhole 73 = .ok (.getfield 147, 3) := by decide +kernel
theorem dX3_stepOverWhole_76 : decode cX3_stepOverWhole 76 = .ok (.isub, 1) := by decide +kernel
theorem dX3_stepOverWhole_77 : decode cX3_stepOverWhole 77 = .ok (.iconst 3, 1) := by decide +kernel
theorem dX3_stepOverWhole_78 : decode cX3_stepOverWhole 78 = .ok (.if_icmp .gt 7, 3) := by decide +kernel
theorem dX3_stepOverWhole_81 : decode cX3_stepOverWhole 81 = .ok (.iconst 2, 1) := by decide +kernel
theorem dX3_stepOverWhole_82 : decode cX3_stepOverWhole 82 = .ok (.goto 4, 3) := by decide +kernel
theorem dX3_stepOverWhole_85 : decode cX3_stepOverWhole 85 = .ok (.iconst 4, 1) := by decide +kernel
theorem dX3_stepOverWhole_86 : decode cX3_stepOverWhole 86 = .ok (.putfield 54, 3) := by decide +kernel
theorem dX3_stepOverWhole_89 : decode cX3_stepOverWhole 89 = .ok (.return_, 1) := by decide +kernel
theorem dX3_isLetter_0 : decode cX3_isLetter 0 = .ok (.iload_n 0, 1) := by decide +kernel
theorem dX3_isLetter_1 : decode cX3_isLetter 1 = .ok (.bipush 97, 2) := by decide +kernel
theorem dX3_isLetter_3 : decode cX3_isLetter 3 = .ok (.if_icmp .lt 13, 3) := by decide +kernel
theorem dX3_isLetter_6 : decode cX3_isLetter 6 = .ok (.iload_n 0, 1) := by decide +kernel
theorem dX3_isLetter_7 : decode cX3_isLetter 7 = .ok (.bipush 122, 2) := by decide +kernel
theorem dX3_isLetter_9 : decode cX3_isLetter 9 = .ok (.if_icmp .gt 7, 3) := by decide +kernel
theorem dX3_isLetter_12 : decode cX3_isLetter 12 = .ok (.iconst 1, 1) := by decide +kernel
theorem dX3_isLetter_13 : decode cX3_isLetter 13 = .ok (.goto 4, 3) := by decide +kernel
theorem dX3_isLetter_16 : decode cX3_isLetter 16 = .ok (.iconst 0, 1) := by decide +kernel
theorem dX3_isLetter_17 : decode cX3_isLetter 17 = .ok (.ireturn, 1) := by decide +kernel
theorem dX3_isDigit_0 : decode cX3_isDigit 0 = .ok (.iload_n 0, 1) := by decide +kernel
theorem dX3_isDigit_1 : decode cX3_isDigit 1 = .ok (.bipush 48, 2) := by decide +kernel
theorem dX3_isDigit_3 : decode cX3_isDigit 3 = .ok (.if_icmp .lt 13, 3) := by decide +kernel
theorem dX3_isDigit_6 : decode cX3_isDigit 6 = .ok (.iload_n 0, 1) := by decide +kernel
theorem dX3_isDigit_7 : decode cX3_isDigit 7 = .ok (.bipush 57, 2) := by decide +kernel
theorem dX3_isDigit_9 : decode cX3_isDigit 9 = .ok (.if_icmp .gt 7, 3) := by decide +kernel
theorem dX3_isDigit_12 : decode cX3_isDigit 12 = .ok (.iconst 1, 1) := by decide +kernel
theorem dX3_isDigit_13 : decode cX3_isDigit 13 = .ok (.goto 4, 3) := by decide +kernel
theorem dX3_isDigit_16 : decode cX3_isDigit 16 = .ok (.iconst 0, 1) := by decide +kernel
theorem dX3_isDigit_17 : decode cX3_isDigit 17 = .ok (.ireturn, 1) := by decide +kernel
theorem dX3_packed_0 : decode cX3_packed 0 = .ok (.iconst 0, 1) := by decide +kernel
theorem dX3_packed_1 : decode cX3_packed 1 = .ok (.istore_n 1, 1) := by decide +kernel
theorem dX3_packed_2 : decode cX3_packed 2 = .ok (.iconst 0, 1) := by decide +kernel
theorem dX3_packed_3 : decode cX3_packed 3 = .ok (.istore_n 2, 1) := by decide +kernel
theorem dX3_packed_4 : decode cX3_packed 4 = .ok (.iload_n 2, 1) := by decide +kernel
theorem dX3_packed_5 : decode cX3_packed 5 = .ok (.aload_n 0, 1) := by decide +kernel
theorem dX3_packed_6 : decode cX3_packed 6 = .ok (.invokevirtual 170, 3) := by decide +kernel
theorem dX3_packed_9 : decode cX3_packed 9 = .ok (.if_icmp .ge 23, 3) := by decide +kernel
theorem dX3_packed_12 : decode cX3_packed 12 = .ok (.iload_n 1, 1) := by decide +kernel
theorem dX3_packed_13 : decode cX3_packed 13 = .ok (.bipush 27, 2) := by decide +kernel
theorem dX3_packed_15 : decode cX3_packed 15 = .ok (.imul, 1) := by decide +kernel
theorem dX3_packed_16 : decode cX3_packed 16 = .ok (.aload_n 0, 1) := by decide +kernel
theorem dX3_packed_17 : decode cX3_packed 17 = .ok (.iload_n 2, 1) := by decide +kernel
theorem dX3_packed_18 : decode cX3_packed 18 = .ok (.invokevirtual 175, 3) := by decide +kernel
theorem dX3_packed_21 : decode cX3_packed 21 = .ok (.invokestatic 167, 3) := by decide +kernel
theorem dX3_packed_24 : decode cX3_packed 24 = .ok (.iadd, 1) := by decide +kernel
theorem dX3_packed_25 : decode cX3_packed 25 = .ok (.istore_n 1, 1) := by decide +kernel
theorem dX3_packed_26 : decode cX3_packed 26 = .ok (.iinc 2 1, 3) := by decide +kernel
theorem dX3_packed_29 : decode cX3_packed 29 = .ok (.goto (-25), 3) := by decide +kernel
theorem dX3_packed_32 : decode cX3_packed 32 = .ok (.iload_n 1, 1) := by decide +kernel
theorem dX3_packed_33 : decode cX3_packed 33 = .ok (.ireturn, 1) := by decide +kernel
theorem dX3_letter_0 : decode cX3_letter 0 = .ok (.iload_n 0, 1) := by decide +kernel
theorem dX3_letter_1 : decode cX3_letter 1 = .ok (.bipush 97, 2) := by decide +kernel
theorem dX3_letter_3 : decode cX3_letter 3 = .ok (.isub, 1) := by decide +kernel
theorem dX3_letter_4 : decode cX3_letter 4 = .ok (.iconst 1, 1) := by decide +kernel
theorem dX3_letter_5 : decode cX3_letter 5 = .ok (.iadd, 1) := by decide +kernel
theorem dX3_letter_6 : decode cX3_letter 6 = .ok (.ireturn, 1) := by decide +kernel
theorem dX4_init_0 : decode cX4_init 0 = .ok (.aload_n 0, 1) := by decide +kernel
theorem dX4_init_1 : decode cX4_init 1 = .ok (.invokespecial 3, 3) := by decide +kernel
theorem dX4_init_4 : decode cX4_init 4 = .ok (.aload_n 0, 1) := by decide +kernel
theorem dX4_init_5 : decode cX4_init 5 = .ok (.new 9, 3) := by decide +kernel
theorem dX4_init_8 : decode cX4_init 8 = .ok (.dup, 1) := by decide +kernel
theorem dX4_init_9 : decode cX4_init 9 = .ok (.invokespecial 11, 3) := by decide +kernel
theorem dX4_init_12 : decode cX4_init 12 = .ok (.putfield 12, 3) := by decide +kernel
theorem dX4_init_15 : decode cX4_init 15 = .ok (.aload_n 0, 1) := by decide +kernel
theorem dX4_init_16 : decode cX4_init 16 = .ok (.new 18, 3) := by decide +kernel
theorem dX4_init_19 : decode cX4_init 19 = .ok (.dup, 1) := by decide +kernel
theorem dX4_init_20 : decode cX4_init 20 = .ok (.invokespecial 20, 3) := by decide +kernel
theorem dX4_init_23 : decode cX4_init 23 = .ok (.putfield 21, 3) := by decide +kernel
theorem dX4_init_26 : decode cX4_init 26 = .ok (.aload_n 0, 1) := by decide +kernel
theorem dX4_init_27 : decode cX4_init 27 = .ok (.bipush 6, 2) := by decide +kernel
theorem dX4_init_29 : decode cX4_init 29 = .ok (.newarray .int, 2) := by decide +kernel
theorem dX4_init_31 : decode cX4_init 31 = .ok (.putfield 25, 3) := by decide +kernel
theorem dX4_init_34 : decode cX4_init 34 = .ok (.aload_n 0, 1) := by decide +kernel
theorem dX4_init_35 : decode cX4_init 35 = .ok (.bipush 6, 2) := by decide +kernel
theorem dX4_init_37 : decode cX4_init 37 = .ok (.newarray .int, 2) := by decide +kernel
theorem dX4_init_39 : decode cX4_init 39 = .ok (.putfield 29, 3) := by decide +kernel
theorem dX4_init_42 : decode cX4_init 42 = .ok (.aload_n 0, 1) := by decide +kernel
theorem dX4_init_43 : decode cX4_init 43 = .ok (.bipush 6, 2) := by decide +kernel
theorem dX4_init_45 : decode cX4_init 45 = .ok (.newarray .int, 2) := by decide +kernel
theorem dX4_init_47 : decode cX4_init 47 = .ok (.putfield 32, 3) := by decide +kernel
theorem dX4_init_50 : decode cX4_init 50 = .ok (.aload_n 0, 1) := by decide +kernel
theorem dX4_init_51 : decode cX4_init 51 = .ok (.bipush 6, 2) := by decide +kernel
theorem dX4_init_53 : decode cX4_init 53 = .ok (.newarray .int, 2) := by decide +kernel
theorem dX4_init_55 : decode cX4_init 55 = .ok (.putfield 35, 3) := by decide +kernel
theorem dX4_init_58 : decode cX4_init 58 = .ok (.aload_n 0, 1) := by decide +kernel
theorem dX4_init_59 : decode cX4_init 59 = .ok (.bipush 6, 2) := by decide +kernel
theorem dX4_init_61 : decode cX4_init 61 = .ok (.newarray .int, 2) := by decide +kernel
theorem dX4_init_63 : decode cX4_init 63 = .ok (.putfield 38, 3) := by decide +kernel
theorem dX4_init_66 : decode cX4_init 66 = .ok (.aload_n 0, 1) := by decide +kernel
theorem dX4_init_67 : decode cX4_init 67 = .ok (.bipush 6, 2) := by decide +kernel
theorem dX4_init_69 : decode cX4_init 69 = .ok (.newarray .int, 2) := by decide +kernel
theorem dX4_init_71 : decode cX4_init 71 = .ok (.putfield 41, 3) := by decide +kernel
theorem dX4_init_74 : decode cX4_init 74 = .ok (.return_, 1) := by decide +kernel
theorem dX4_start_0 : decode cX4_start 0 = .ok (.aload_n 0, 1) := by decide +kernel
theorem dX4_start_1 : decode cX4_start 1 = .ok (.aload_n 1, 1) := by decide +kernel
theorem dX4_start_2 : decode cX4_start 2 = .ok (.putfield 21, 3) := by decide +kernel
theorem dX4_start_5 : decode cX4_start 5 = .ok (.aload_n 0, 1) := by decide +kernel
theorem dX4_start_6 : decode cX4_start 6 = .ok (.iconst 0, 1) := by decide +kernel
theorem dX4_start_7 : decode cX4_start 7 = .ok (.putfield 44, 3) := by decide +kernel
theorem dX4_start_10 : decode cX4_start 10 = .ok (.aload_n 0, 1) := by decide +kernel
theorem dX4_start_11 : decode cX4_start 11 = .ok (.bipush (-2), 2) := by decide +kernel
theorem dX4_start_13 : decode cX4_start 13 = .ok (.putfield 48, 3) := by decide +kernel
theorem dX4_start_16 : decode cX4_start 16 = .ok (.aload_n 0, 1) := by decide +kernel
theorem dX4_start_17 : decode cX4_start 17 = .ok (.bipush (-2), 2) := by decide +kernel
theorem dX4_start_19 : decode cX4_start 19 = .ok (.putfield 51, 3) := by decide +kernel
theorem dX4_start_22 : decode cX4_start 22 = .ok (.aload_n 0, 1) := by decide +kernel
theorem dX4_start_23 : decode cX4_start 23 = .ok (.bipush (-2), 2) := by decide +kernel
theorem dX4_start_25 : decode cX4_start 25 = .ok (.putfield 54, 3) := by decide +kernel
theorem dX4_start_28 : decode cX4_start 28 = .ok (.aload_n 0, 1) := by decide +kernel
theorem dX4_start_29 : decode cX4_start 29 = .ok (.bipush (-2), 2) := by decide +kernel
theorem dX4_start_31 : decode cX4_start 31 = .ok (.putfield 57, 3) := by decide +kernel
theorem dX4_start_34 : decode cX4_start 34 = .ok (.aload_n 0, 1) := by decide +kernel
theorem dX4_start_35 : decode cX4_start 35 = .ok (.iconst 0, 1) := by decide +kernel
theorem dX4_start_36 : decode cX4_start 36 = .ok (.putfield 60, 3) := by decide +kernel
theorem dX4_start_39 : decode cX4_start 39 = .ok (.aload_n 0, 1) := by decide +kernel
theorem dX4_start_40 : decode cX4_start 40 = .ok (.aload_n 0, 1) := by decide +kernel
theorem dX4_start_41 : decode cX4_start 41 = .ok (.getfield 21, 3) := by decide +kernel
theorem dX4_start_44 : decode cX4_start 44 = .ok (.invokevirtual 63, 3) := by decide +kernel
theorem dX4_start_47 : decode cX4_start 47 = .ok (.iconst 1, 1) := by decide +kernel
theorem dX4_start_48 : decode cX4_start 48 = .ok (.isub, 1) := by decide +kernel
theorem dX4_start_49 : decode cX4_start 49 = .ok (.putfield 67, 3) := by decide +kernel
theorem dX4_start_52 : decode cX4_start 52 = .ok (.aload_n 0, 1) := by decide +kernel
theorem dX4_start_53 : decode cX4_start 53 = .ok (.getfield 29, 3) := by decide +kernel
theorem dX4_start_56 : decode cX4_start 56 = .ok (.iconst 0, 1) := by decide +kernel
theorem dX4_start_57 : decode cX4_start 57 = .ok (.invokestatic 70, 3) := by decide +kernel
theorem dX4_start_60 : decode cX4_start 60 = .ok (.aload_n 0, 1) := by decide +kernel
theorem dX4_start_61 : decode cX4_start 61 = .ok (.getfield 32, 3) := by decide +kernel
theorem dX4_start_64 : decode cX4_start 64 = .ok (.iconst 0, 1) := by decide +kernel
theorem dX4_start_65 : decode cX4_start 65 = .ok (.invokestatic 70, 3) := by decide +kernel
theorem dX4_start_68 : decode cX4_start 68 = .ok (.aload_n 0, 1) := by decide +kernel
theorem dX4_start_69 : decode cX4_start 69 = .ok (.getfield 35, 3) := by decide +kernel
theorem dX4_start_72 : decode cX4_start 72 = .ok (.iconst 0, 1) := by decide +kernel
theorem dX4_start_73 : decode cX4_start 73 = .ok (.invokestatic 70, 3) := by decide +kernel
theorem dX4_start_76 : decode cX4_start 76 = .ok (.aload_n 0, 1) := by decide +kernel
theorem dX4_start_77 : decode cX4_start 77 = .ok (.getfield 38, 3) := by decide +kernel
theorem dX4_start_80 : decode cX4_start 80 = .ok (.iconst 0, 1) := by decide +kernel
theorem dX4_start_81 : decode cX4_start 81 = .ok (.invokestatic 70, 3) := by decide +kernel
theorem dX4_start_84 : decode cX4_start 84 = .ok (.aload_n 0, 1) := by decide +kernel
theorem dX4_start_85 : decode cX4_start 85 = .ok (.getfield 41, 3) := by decide +kernel
theorem dX4_start_88 : decode cX4_start 88 = .ok (.bipush (-2), 2) := by decide +kernel
theorem dX4_start_90 : decode cX4_start 90 = .ok (.invokestatic 70, 3) := by decide +kernel
theorem dX4_start_93 : decode cX4_start 93 = .ok (.aload_n 0, 1) := by decide +kernel
theorem dX4_start_94 : decode cX4_start 94 = .ok (.getfield 12, 3) := by decide +kernel
theorem dX4_start_97 : decode cX4_start 97 = .ok (.invokevirtual 76, 3) := by decide +kernel
theorem dX4_start_100 : decode cX4_start 100 = .ok (.return_, 1) := by decide +kernel
theorem dX4_copy_0 : decode cX4_copy 0 = .ok (.aload_n 0, 1) := by decide +kernel
theorem dX4_copy_1 : decode cX4_copy 1 = .ok (.aload_n 1, 1) := by decide +kernel
theorem dX4_copy_2 : decode cX4_copy 2 = .ok (.getfield 21, 3) := by decide +kernel
theorem dX4_copy_5 : decode cX4_copy 5 = .ok (.putfield 21, 3) := by decide +kernel
theorem dX4_copy_8 : decode cX4_copy 8 = .ok (.aload_n 0, 1) := by decide +kernel
theorem dX4_copy_9 : decode cX4_copy 9 = .ok (.aload_n 1, 1) := by decide +kernel
theorem dX4_copy_10 : decode cX4_copy 10 = .ok (.getfield 44, 3) := by decide +kernel
theorem dX4_copy_13 : decode cX4_copy 13 = .ok (.putfield 44, 3) := by decide +kernel
theorem dX4_copy_16 : decode cX4_copy 16 = .ok (.aload_n 0, 1) := by decide +kernel
theorem dX4_copy_17 : decode cX4_copy 17 = .ok (.aload_n 1, 1) := by decide +kernel
theorem dX4_copy_18 : decode cX4_copy 18 = .ok (.getfield 48, 3) := by decide +kernel
theorem dX4_copy_21 : decode cX4_copy 21 = .ok (.putfield 48, 3) := by decide +kernel
theorem dX4_copy_24 : decode cX4_copy 24 = .ok (.aload_n 0, 1) := by decide +kernel
theorem dX4_copy_25 : decode cX4_copy 25 = .ok (.aload_n 1, 1) := by decide +kernel
theorem dX4_copy_26 : decode cX4_copy 26 = .ok (.getfield 51, 3) := by decide +kernel
theorem dX4_copy_29 : decode cX4_copy 29 = .ok (.putfield 51, 3) := by decide +kernel
theorem dX4_copy_32 : decode cX4_copy 32 = .ok (.aload_n 0, 1) := by decide +kernel
theorem dX4_copy_33 : decode cX4_copy 33 = .ok (.aload_n 1, 1) := by decide +kernel
theorem dX4_copy_34 : decode cX4_copy 34 = .ok (.getfield 54, 3) := by decide +kernel
theorem dX4_copy_37 : decode cX4_copy 37 = .ok (.putfield 54, 3) := by decide +kernel
theorem dX4_copy_40 : decode cX4_copy 40 = .ok (.aload_n 0, 1) := by decide +kernel
theorem dX4_copy_41 : decode cX4_copy 41 = .ok (.aload_n 1, 1) := by decide +kernel
theorem dX4_copy_42 : decode cX4_copy 42 = .ok (.getfield 57, 3) := by decide +kernel
theorem dX4_copy_45 : decode cX4_copy 45 = .ok (.putfield 57, 3) := by decide +kernel
theorem dX4_copy_48 : decode cX4_copy 48 = .ok (.aload_n 0, 1) := by decide +kernel
theorem dX4_copy_49 : decode cX4_copy 49 = .ok (.aload_n 1, 1) := by decide +kernel
theorem dX4_copy_50 : decode cX4_copy 50 = .ok (.getfield 60, 3) := by decide +kernel
theorem dX4_copy_53 : decode cX4_copy 53 = .ok (.putfield 60, 3) := by decide +kernel
theorem dX4_copy_56 : decode cX4_copy 56 = .ok (.aload_n 0, 1) := by decide +kernel
theorem dX4_copy_57 : decode cX4_copy 57 = .ok (.aload_n 1, 1) := by decide +kernel
theorem dX4_copy_58 : decode cX4_copy 58 = .ok (.getfield 67, 3) := by decide +kernel
theorem dX4_copy_61 : decode cX4_copy 61 = .ok (.putfield 67, 3) := by decide +kernel
theorem dX4_copy_64 : decode cX4_copy 64 = .ok (.aload_n 1, 1) := by decide +kernel
theorem dX4_copy_65 : decode cX4_copy 65 = .ok (.getfield 29, 3) := by decide +kernel
theorem dX4_copy_68 : decode cX4_copy 68 = .ok (.iconst 0, 1) := by decide +kernel
theorem dX4_copy_69 : decode cX4_copy 69 = .ok (.aload_n 0, 1) := by decide +kernel
theorem dX4_copy_70 : decode cX4_copy 70 = .ok (.getfield 29, 3) := by decide +kernel
theorem dX4_copy_73 : decode cX4_copy 73 = .ok (.iconst 0, 1) := by decide +kernel
theorem dX4_copy_74 : decode cX4_copy 74 = .ok (.bipush 6, 2) := by decide +kernel
theorem dX4_copy_76 : decode cX4_copy 76 = .ok (.invokestatic 79, 3) := by decide +kernel
theorem dX4_copy_79 : decode cX4_copy 79 = .ok (.aload_n 1, 1) := by decide +kernel
theorem dX4_copy_80 : decode cX4_copy 80 = .ok (.getfield 32, 3) := by decide +kernel
theorem dX4_copy_83 : decode cX4_copy 83 = .ok (.iconst 0, 1) := by decide +kernel
theorem dX4_copy_84 : decode cX4_copy 84 = .ok (.aload_n 0, 1) := by decide +kernel
theorem dX4_copy_85 : decode cX4_copy 85 = .ok (.getfield 32, 3) := by decide +kernel
theorem dX4_copy_88 : decode cX4_copy 88 = .ok (.iconst 0, 1) := by decide +kernel
theorem dX4_copy_89 : decode cX4_copy 89 = .ok (.bipush 6, 2) := by decide +kernel
theorem dX4_copy_91 : decode cX4_copy 91 = .ok (.invokestatic 79, 3) := by decide +kernel
theorem dX4_copy_94 : decode cX4_copy 94 = .ok (.aload_n 1, 1) := by decide +kernel
theorem dX4_copy_95 : decode cX4_copy 95 = .ok (.getfield 35, 3) := by decide +kernel
theorem dX4_copy_98 : decode cX4_copy 98 = .ok (.iconst 0, 1) := by decide +kernel
theorem dX4_copy_99 : decode cX4_copy 99 = .ok (.aload_n 0, 1) := by decide +kernel
theorem dX4_copy_100 : decode cX4_copy 100 = .ok (.getfield 35, 3) := by decide +kernel
theorem dX4_copy_103 : decode cX4_copy 103 = .ok (.iconst 0, 1) := by decide +kernel
theorem dX4_copy_104 : decode cX4_copy 104 = .ok (.bipush 6, 2) := by decide +kernel
theorem dX4_copy_106 : decode cX4_copy 106 = .ok (.invokestatic 79, 3) := by decide +kernel
theorem dX4_copy_109 : decode cX4_copy 109 = .ok (.aload_n 1, 1) := by decide +kernel
theorem dX4_copy_110 : decode cX4_copy 110 = .ok (.getfield 38, 3) := by decide +kernel
theorem dX4_copy_113 : decode cX4_copy 113 = .ok (.iconst 0, 1) := by decide +kernel
theorem dX4_copy_114 : decode cX4_copy 114 = .ok (.aload_n 0, 1) := by decide +kernel
theorem dX4_copy_115 : decode cX4_copy 115 = .ok (.getfield 38, 3) := by decide +kernel
theorem dX4_copy_118 : decode cX4_copy 118 = .ok (.iconst 0, 1) := by decide +kernel
theorem dX4_copy_119 : decode cX4_copy 119 = .ok (.bipush 6, 2) := by decide +kernel
theorem dX4_copy_121 : decode cX4_copy 121 = .ok (.invokestatic 79, 3) := by decide +kernel
theorem dX4_copy_124 : decode cX4_copy 124 = .ok (.aload_n 1, 1) := by decide +kernel
theorem dX4_copy_125 : decode cX4_copy 125 = .ok (.getfield 41, 3) := by decide +kernel
theorem dX4_copy_128 : decode cX4_copy 128 = .ok (.iconst 0, 1) := by decide +kernel
theorem dX4_copy_129 : decode cX4_copy 129 = .ok (.aload_n 0, 1) := by decide +kernel
theorem dX4_copy_130 : decode cX4_copy 130 = .ok (.getfield 41, 3) := by decide +kernel
theorem dX4_copy_133 : decode cX4_copy 133 = .ok (.iconst 0, 1) := by decide +kernel
theorem dX4_copy_134 : decode cX4_copy 134 = .ok (.bipush 6, 2) := by decide +kernel
theorem dX4_copy_136 : decode cX4_copy 136 = .ok (.invokestatic 79, 3) := by decide +kernel
theorem dX4_copy_139 : decode cX4_copy 139 = .ok (.aload_n 0, 1) := by decide +kernel
theorem dX4_copy_140 : decode cX4_copy 140 = .ok (.getfield 12, 3) := by decide +kernel
theorem dX4_copy_143 : decode cX4_copy 143 = .ok (.aload_n 1, 1) := by decide +kernel
theorem dX4_copy_144 : decode cX4_copy 144 = .ok (.getfield 12, 3) := by decide +kernel
theorem dX4_copy_147 : decode cX4_copy 147 = .ok (.invokevirtual 85, 3) := by decide +kernel
theorem dX4_copy_150 : decode cX4_copy 150 = .ok (.return_, 1) := by decide +kernel
theorem dX4_advance_0 : decode cX4_advance 0 = .ok (.iconst 0, 1) := by decide +kernel
theorem dX4_advance_1 : decode cX4_advance 1 = .ok (.istore_n 3, 1) := by decide +kernel
theorem dX4_advance_2 : decode cX4_advance 2 = .ok (.iload_n 3, 1) := by decide +kernel
theorem dX4_advance_3 : decode cX4_advance 3 = .ok (.iload_n 1, 1) := by decide +kernel
theorem dX4_advance_4 : decode cX4_advance 4 = .ok (.if_icmp .ge 14, 3) := by decide +kernel
theorem dX4_advance_7 : decode cX4_advance 7 = .ok (.aload_n 0, 1) := by decide +kernel
theorem dX4_advance_8 : decode cX4_advance 8 = .ok (.aload_n 2, 1) := by decide +kernel
theorem dX4_advance_9 : decode cX4_advance 9 = .ok (.invokevirtual 89, 3) := by decide +kernel
theorem dX4_advance_12 : decode cX4_advance 12 = .ok (.iinc 3 1, 3) := by decide +kernel
theorem dX4_advance_15 : decode cX4_advance 15 = .ok (.goto (-13), 3) := by decide +kernel
theorem dX4_advance_18 : decode cX4_advance 18 = .ok (.return_, 1) := by decide +kernel
theorem dX4_ticksToMaster_0 : decode cX4_ticksToMaster 0 = .ok (.aload_n 0, 1) := by decide +kernel
theorem dX4_ticksToMaster_1 : decode cX4_ticksToMaster 1 = .ok (.getfield 12, 3) := by decide +kernel
theorem dX4_ticksToMaster_4 : decode cX4_ticksToMaster 4 = .ok (.iload_n 1, 1) := by decide +kernel
theorem dX4_ticksToMaster_5 : decode cX4_ticksToMaster 5 = .ok (.iconst 0, 1) := by decide +kernel
theorem dX4_ticksToMaster_6 : decode cX4_ticksToMaster 6 = .ok (.invokevirtual 93, 3) := by decide +kernel
theorem dX4_ticksToMaster_9 : decode cX4_ticksToMaster 9 = .ok (.istore_n 3, 1) := by decide +kernel
theorem dX4_ticksToMaster_10 : decode cX4_ticksToMaster 10 = .ok (.iconst 1, 1) := by decide +kernel
theorem dX4_ticksToMaster_11 : decode cX4_ticksToMaster 11 = .ok (.istore 4, 2) := by decide +kernel
theorem dX4_ticksToMaster_13 : decode cX4_ticksToMaster 13 = .ok (.iload 4, 2) := by decide +kernel
theorem dX4_ticksToMaster_15 : decode cX4_ticksToMaster 15 = .ok (.sipush 2000, 3) := by decide +kernel
theorem dX4_ticksToMaster_18 : decode cX4_ticksToMaster 18 = .ok (.if_icmp .gt 30, 3) := by decide +kernel
theorem dX4_ticksToMaster_21 : decode cX4_ticksToMaster 21 = .ok (.aload_n 0, 1) := by decide +kernel
theorem dX4_ticksToMaster_22 : decode cX4_ticksToMaster 22 = .ok (.aload_n 2, 1) := by decide +kernel
theorem dX4_ticksToMaster_23 : decode cX4_ticksToMaster 23 = .ok (.invokevirtual 89, 3) := by decide +kernel
theorem dX4_ticksToMaster_26 : decode cX4_ticksToMaster 26 = .ok (.aload_n 0, 1) := by decide +kernel
theorem dX4_ticksToMaster_27 : decode cX4_ticksToMaster 27 = .ok (.getfield 12, 3) := by decide +kernel
theorem dX4_ticksToMaster_30 : decode cX4_ticksToMaster 30 = .ok (.iload_n 1, 1) := by decide +kernel
theorem dX4_ticksToMaster_31 : decode cX4_ticksToMaster 31 = .ok (.iconst 0, 1) := by decide +kernel
theorem dX4_ticksToMaster_32 : decode cX4_ticksToMaster 32 = .ok (.invokevirtual 93, 3) := by decide +kernel
theorem dX4_ticksToMaster_35 : decode cX4_ticksToMaster 35 = .ok (.iload_n 3, 1) := by decide +kernel
theorem dX4_ticksToMaster_36 : decode cX4_ticksToMaster 36 = .ok (.if_icmp .eq 6, 3) := by decide +kernel
theorem dX4_ticksToMaster_39 : decode cX4_ticksToMaster 39 = .ok (.iload 4, 2) := by decide +kernel
theorem dX4_ticksToMaster_41 : decode cX4_ticksToMaster 41 = .ok (.ireturn, 1) := by decide +kernel
theorem dX4_ticksToMaster_42 : decode cX4_ticksToMaster 42 = .ok (.iinc 4 1, 3) := by decide +kernel
theorem dX4_ticksToMaster_45 : decode cX4_ticksToMaster 45 = .ok (.goto (-32), 3) := by decide +kernel
theorem dX4_ticksToMaster_48 : decode cX4_ticksToMaster 48 = .ok (.bipush (-2), 2) := by decide +kernel
theorem dX4_ticksToMaster_50 : decode cX4_ticksToMaster 50 = .ok (.ireturn, 1) := by decide +kernel
theorem dX4_tick_0 : decode cX4_tick 0 = .ok (.aload_n 0, 1) := by decide +kernel
theorem dX4_tick_1 : decode cX4_tick 1 = .ok (.dup, 1) := by decide +kernel
theorem dX4_tick_2 : decode cX4_tick 2 = .ok (.getfield 44, 3) := by decide +kernel
theorem dX4_tick_5 : decode cX4_tick 5 = .ok (.iconst 1, 1) := by decide +kernel
theorem dX4_tick_6 : decode cX4_tick 6 = .ok (.iadd, 1) := by decide +kernel
theorem dX4_tick_7 : decode cX4_tick 7 = .ok (.putfield 44, 3) := by decide +kernel
theorem dX4_tick_10 : decode cX4_tick 10 = .ok (.aload_n 0, 1) := by decide +kernel
theorem dX4_tick_11 : decode cX4_tick 11 = .ok (.invokevirtual 97, 3) := by decide +kernel
theorem dX4_tick_14 : decode cX4_tick 14 = .ok (.aload_n 0, 1) := by decide +kernel
theorem dX4_tick_15 : decode cX4_tick 15 = .ok (.getfield 44, 3) := by decide +kernel
theorem dX4_tick_18 : decode cX4_tick 18 = .ok (.aload_n 0, 1) := by decide +kernel
theorem dX4_tick_19 : decode cX4_tick 19 = .ok (.getfield 51, 3) := by decide +kernel
theorem dX4_tick_22 : decode cX4_tick 22 = .ok (.if_icmp .ne 15, 3) := by decide +kernel
theorem dX4_tick_25 : decode cX4_tick 25 = .ok (.aload_n 0, 1) := by decide +kernel
theorem dX4_tick_26 : decode cX4_tick 26 = .ok (.bipush (-2), 2) := by decide +kernel
theorem dX4_tick_28 : decode cX4_tick 28 = .ok (.putfield 48, 3) := by decide +kernel
theorem dX4_tick_31 : decode cX4_tick 31 = .ok (.aload_n 0, 1) := by decide +kernel
theorem dX4_tick_32 : decode cX4_tick 32 = .ok (.bipush (-2), 2) := by decide +kernel
theorem dX4_tick_34 : decode cX4_tick 34 = .ok (.putfield 51, 3) := by decide +kernel
theorem dX4_tick_37 : decode cX4_tick 37 = .ok (.aload_n 0, 1) := by decide +kernel
theorem dX4_tick_38 : decode cX4_tick 38 = .ok (.getfield 44, 3) := by decide +kernel
theorem dX4_tick_41 : decode cX4_tick 41 = .ok (.aload_n 0, 1) := by decide +kernel
theorem dX4_tick_42 : decode cX4_tick 42 = .ok (.getfield 57, 3) := by decide +kernel
theorem dX4_tick_45 : decode cX4_tick 45 = .ok (.if_icmp .ne 8, 3) := by decide +kernel
theorem dX4_tick_48 : decode cX4_tick 48 = .ok (.aload_n 0, 1) := by decide +kernel
theorem dX4_tick_49 : decode cX4_tick 49 = .ok (.aload_n 1, 1) := by decide +kernel
theorem dX4_tick_50 : decode cX4_tick 50 = .ok (.invokevirtual 100, 3) := by decide +kernel
theorem dX4_tick_53 : decode cX4_tick 53 = .ok (.aload_n 0, 1) := by decide +kernel
theorem dX4_tick_54 : decode cX4_tick 54 = .ok (.getfield 57, 3) := by decide +kernel
theorem dX4_tick_57 : decode cX4_tick 57 = .ok (.bipush (-2), 2) := by decide +kernel
theorem dX4_tick_59 : decode cX4_tick 59 = .ok (.if_icmp .ne 25, 3) := by decide +kernel
theorem dX4_tick_62 : decode cX4_tick 62 = .ok (.aload_n 0, 1) := by decide +kernel
theorem dX4_tick_63 : decode cX4_tick 63 = .ok (.getfield 48, 3) := by decide +kernel
theorem dX4_tick_66 : decode cX4_tick 66 = .ok (.bipush (-2), 2) := by decide +kernel
theorem dX4_tick_68 : decode cX4_tick 68 = .ok (.if_icmp .ne 16, 3) := by decide +kernel
theorem dX4_tick_71 : decode cX4_tick 71 = .ok (.aload_n 0, 1) := by decide +kernel
theorem dX4_tick_72 : decode cX4_tick 72 = .ok (.getfield 54, 3) := by decide +kernel
theorem dX4_tick_75 : decode cX4_tick 75 = .ok (.bipush (-2), 2) := by decide +kernel
theorem dX4_tick_77 : decode cX4_tick 77 = .ok (.if_icmp .eq 7, 3) := by decide +kernel
theorem dX4_tick_80 : decode cX4_tick 80 = .ok (.aload_n 0, 1) := by decide +kernel
theorem dX4_tick_81 : decode cX4_tick 81 = .ok (.invokevirtual 103, 3) := by decide +kernel
theorem dX4_tick_84 : decode cX4_tick 84 = .ok (.aload_n 0, 1) := by decide +kernel
theorem dX4_tick_85 : decode cX4_tick 85 = .ok (.getfield 57, 3) := by decide +kernel
theorem dX4_tick_88 : decode cX4_tick 88 = .ok (.bipush (-2), 2) := by decide +kernel
theorem dX4_tick_90 : decode cX4_tick 90 = .ok (.if_icmp .ne 14, 3) := by decide +kernel
theorem dX4_tick_93 : decode cX4_tick 93 = .ok (.aload_n 0, 1) := by decide +kernel
theorem dX4_tick_94 : decode cX4_tick 94 = .ok (.invokevirtual 106, 3) := by decide +kernel
theorem dX4_tick_97 : decode cX4_tick 97 = .ok (.ifCond .eq 7, 3) := by decide +kernel
theorem dX4_tick_100 : decode cX4_tick 100 = .ok (.aload_n 0, 1) := by decide +kernel
theorem dX4_tick_101 : decode cX4_tick 101 = .ok (.invokevirtual 110, 3) := by decide +kernel
theorem dX4_tick_104 : decode cX4_tick 104 = .ok (.aload_n 0, 1) := by decide +kernel
theorem dX4_tick_105 : decode cX4_tick 105 = .ok (.getfield 12, 3) := by decide +kernel
theorem dX4_tick_108 : decode cX4_tick 108 = .ok (.aload_n 0, 1) := by decide +kernel
theorem dX4_tick_109 : decode cX4_tick 109 = .ok (.getfield 44, 3) := by decide +kernel
theorem dX4_tick_112 : decode cX4_tick 112 = .ok (.aload_n 0, 1) := by decide +kernel
theorem dX4_tick_113 : decode cX4_tick 113 = .ok (.getfield 48, 3) := by decide +kernel
theorem dX4_tick_116 : decode cX4_tick 116 = .ok (.invokevirtual 113, 3) := by decide +kernel
theorem dX4_tick_119 : decode cX4_tick 119 = .ok (.return_, 1) := by decide +kernel
theorem dX4_hearTold_0 : decode cX4_hearTold 0 = .ok (.iconst 0, 1) := by decide +kernel
theorem dX4_hearTold_1 : decode cX4_hearTold 1 = .ok (.istore_n 1, 1) := by decide +kernel
theorem dX4_hearTold_2 : decode cX4_hearTold 2 = .ok (.iload_n 1, 1) := by decide +kernel
theorem dX4_hearTold_3 : decode cX4_hearTold 3 = .ok (.aload_n 0, 1) := by decide +kernel
theorem dX4_hearTold_4 : decode cX4_hearTold 4 = .ok (.getfield 21, 3) := by decide +kernel
theorem dX4_hearTold_7 : decode cX4_hearTold 7 = .ok (.getfield 117, 3) := by decide +kernel
theorem dX4_hearTold_10 : decode cX4_hearTold 10 = .ok (.if_icmp .ge 54, 3) := by decide +kernel
theorem dX4_hearTold_13 : decode cX4_hearTold 13 = .ok (.iload_n 1, 1) := by decide +kernel
theorem dX4_hearTold_14 : decode cX4_hearTold 14 = .ok (.bipush 12, 2) := by decide +kernel
theorem dX4_hearTold_16 : decode cX4_hearTold 16 = .ok (.if_icmp .ge 48, 3) := by decide +kernel
theorem dX4_hearTold_19 : decode cX4_hearTold 19 = .ok (.aload_n 0, 1) := by decide +kernel
theorem dX4_hearTold_20 : decode cX4_hearTold 20 = .ok (.getfield 21, 3) := by decide +kernel
theorem dX4_hearTold_23 : decode cX4_hearTold 23 = .ok (.getfield 120, 3) := by decide +kernel
theorem dX4_hearTold_26 : decode cX4_hearTold 26 = .ok (.iload_n 1, 1) := by decide +kernel
theorem dX4_hearTold_27 : decode cX4_hearTold 27 = .ok (.iaload, 1) := by decide +kernel
theorem dX4_hearTold_28 : decode cX4_hearTold 28 = .ok (.aload_n 0, 1) := by decide +kernel
theorem dX4_hearTold_29 : decode cX4_hearTold 29 = .ok (.getfield 44, 3) := by decide +kernel
theorem dX4_hearTold_32 : decode cX4_hearTold 32 = .ok (.if_icmp .ne 26, 3) := by decide +kernel
theorem dX4_hearTold_35 : decode cX4_hearTold 35 = .ok (.aload_n 0, 1) := by decide +kernel
theorem dX4_hearTold_36 : decode cX4_hearTold 36 = .ok (.aload_n 0, 1) := by decide +kernel
theorem dX4_hearTold_37 : decode cX4_hearTold 37 = .ok (.getfield 21, 3) := by decide +kernel
theorem dX4_hearTold_40 : decode cX4_hearTold 40 = .ok (.getfield 123, 3) := by decide +kernel
theorem dX4_hearTold_43 : decode cX4_hearTold 43 = .ok (.iload_n 1, 1) := by decide +kernel
theorem dX4_hearTold_44 : decode cX4_hearTold 44 = .ok (.iaload, 1) := by decide +kernel
theorem dX4_hearTold_45 : decode cX4_hearTold 45 = .ok (.aload_n 0, 1) := by decide +kernel
theorem dX4_hearTold_46 : decode cX4_hearTold 46 = .ok (.getfield 21, 3) := by decide +kernel
theorem dX4_hearTold_49 : decode cX4_hearTold 49 = .ok (.getfield 126, 3) := by decide +kernel
theorem dX4_hearTold_52 : decode cX4_hearTold 52 = .ok (.iload_n 1, 1) := by decide +kernel
theorem dX4_hearTold_53 : decode cX4_hearTold 53 = .ok (.iaload, 1) := by decide +kernel
theorem dX4_hearTold_54 : decode cX4_hearTold 54 = .ok (.invokevirtual 129, 3) := by decide +kernel
theorem dX4_hearTold_57 : decode cX4_hearTold 57 = .ok (.pop, 1) := by decide +kernel
theorem dX4_hearTold_58 : decode cX4_hearTold 58 = .ok (.iinc 1 1, 3) := by decide +kernel
theorem dX4_hearTold_61 : decode cX4_hearTold 61 = .ok (.goto (-59), 3) := by decide +kernel
theorem dX4_hearTold_64 : decode cX4_hearTold 64 = .ok (.return_, 1) := by decide +kernel
theorem dX4_hear_0 : decode cX4_hear 0 = .ok (.aload_n 0, 1) := by decide +kernel
theorem dX4_hear_1 : decode cX4_hear 1 = .ok (.getfield 21, 3) := by decide +kernel
theorem dX4_hear_4 : decode cX4_hear 4 = .ok (.iload_n 1, 1) := by decide +kernel
theorem dX4_hear_5 : decode cX4_hear 5 = .ok (.invokevirtual 133, 3) := by decide +kernel
theorem dX4_hear_8 : decode cX4_hear 8 = .ok (.ifCond .ne 5, 3) := by decide +kernel
theorem dX4_hear_11 : decode cX4_hear 11 = .ok (.iconst 0, 1) := by decide +kernel
theorem dX4_hear_12 : decode cX4_hear 12 = .ok (.ireturn, 1) := by decide +kernel
theorem dX4_hear_13 : decode cX4_hear 13 = .ok (.aload_n 0, 1) := by decide +kernel
theorem dX4_hear_14 : decode cX4_hear 14 = .ok (.getfield 35, 3) := by decide +kernel
theorem dX4_hear_17 : decode cX4_hear 17 = .ok (.iload_n 1, 1) := by decide +kernel
theorem dX4_hear_18 : decode cX4_hear 18 = .ok (.iaload, 1) := by decide +kernel
theorem dX4_hear_19 : decode cX4_hear 19 = .ok (.ifCond .gt 11, 3) := by decide +kernel
theorem dX4_hear_22 : decode cX4_hear 22 = .ok (.aload_n 0, 1) := by decide +kernel
theorem dX4_hear_23 : decode cX4_hear 23 = .ok (.getfield 48, 3) := by decide +kernel
theorem dX4_hear_26 : decode cX4_hear 26 = .ok (.iload_n 1, 1) := by decide +kernel
theorem dX4_hear_27 : decode cX4_hear 27 = .ok (.if_icmp .ne 14, 3) := by decide +kernel
theorem dX4_hear_30 : decode cX4_hear 30 = .ok (.aload_n 0, 1) := by decide +kernel
theorem dX4_hear_31 : decode cX4_hear 31 = .ok (.getfield 12, 3) := by decide +kernel
theorem dX4_hear_34 : decode cX4_hear 34 = .ok (.iload_n 1, 1) := by decide +kernel
theorem dX4_hear_35 : decode cX4_hear 35 = .ok (.iconst 2, 1) := by decide +kernel
theorem dX4_hear_36 : decode cX4_hear 36 = .ok (.invokevirtual 137, 3) := by decide +kernel
theorem dX4_hear_39 : decode cX4_hear 39 = .ok (.iconst 0, 1) := by decide +kernel
theorem dX4_hear_40 : decode cX4_hear 40 = .ok (.ireturn, 1) := by decide +kernel
theorem dX4_hear_41 : decode cX4_hear 41 = .ok (.aload_n 0, 1) := by decide +kernel
theorem dX4_hear_42 : decode cX4_hear 42 = .ok (.getfield 35, 3) := by decide +kernel
theorem dX4_hear_45 : decode cX4_hear 45 = .ok (.iload_n 1, 1) := by decide +kernel
theorem dX4_hear_46 : decode cX4_hear 46 = .ok (.iload_n 2, 1) := by decide +kernel
theorem dX4_hear_47 : decode cX4_hear 47 = .ok (.iastore, 1) := by decide +kernel
theorem dX4_hear_48 : decode cX4_hear 48 = .ok (.aload_n 0, 1) := by decide +kernel
theorem dX4_hear_49 : decode cX4_hear 49 = .ok (.getfield 38, 3) := by decide +kernel
theorem dX4_hear_52 : decode cX4_hear 52 = .ok (.iload_n 1, 1) := by decide +kernel
theorem dX4_hear_53 : decode cX4_hear 53 = .ok (.aload_n 0, 1) := by decide +kernel
theorem dX4_hear_54 : decode cX4_hear 54 = .ok (.getfield 44, 3) := by decide +kernel
theorem dX4_hear_57 : decode cX4_hear 57 = .ok (.iastore, 1) := by decide +kernel
theorem dX4_hear_58 : decode cX4_hear 58 = .ok (.iconst 1, 1) := by decide +kernel
theorem dX4_hear_59 : decode cX4_hear 59 = .ok (.ireturn, 1) := by decide +kernel
theorem dX4_finish_0 : decode cX4_finish 0 = .ok (.aload_n 0, 1) := by decide +kernel
theorem dX4_finish_1 : decode cX4_finish 1 = .ok (.getfield 60, 3) := by decide +kernel
theorem dX4_finish_4 : decode cX4_finish 4 = .ok (.istore_n 2, 1) := by decide +kernel
theorem dX4_finish_5 : decode cX4_finish 5 = .ok (.aload_n 0, 1) := by decide +kernel
theorem dX4_finish_6 : decode cX4_finish 6 = .ok (.bipush (-2), 2) := by decide +kernel
theorem dX4_finish_8 : decode cX4_finish 8 = .ok (.putfield 57, 3) := by decide +kernel
theorem dX4_finish_11 : decode cX4_finish 11 = .ok (.aload_n 0, 1) := by decide +kernel
theorem dX4_finish_12 : decode cX4_finish 12 = .ok (.iconst 0, 1) := by decide +kernel
theorem dX4_finish_13 : decode cX4_finish 13 = .ok (.putfield 60, 3) := by decide +kernel
theorem dX4_finish_16 : decode cX4_finish 16 = .ok (.aload_n 1, 1) := by decide +kernel
theorem dX4_finish_17 : decode cX4_finish 17 = .ok (.aload_n 0, 1) := by decide +kernel
theorem dX4_finish_18 : decode cX4_finish 18 = .ok (.aload_n 0, 1) := by decide +kernel
theorem dX4_finish_19 : decode cX4_finish 19 = .ok (.getfield 29, 3) := by decide +kernel
theorem dX4_finish_22 : decode cX4_finish 22 = .ok (.iload_n 2, 1) := by decide +kernel
theorem dX4_finish_23 : decode cX4_finish 23 = .ok (.invokevirtual 140, 3) := by decide +kernel
theorem dX4_finish_26 : decode cX4_finish 26 = .ok (.aload_n 1, 1) := by decide +kernel
theorem dX4_finish_27 : decode cX4_finish 27 = .ok (.getfield 146, 3) := by decide +kernel
theorem dX4_finish_30 : decode cX4_finish 30 = .ok (.istore_n 3, 1) := by decide +kernel
theorem dX4_finish_31 : decode cX4_finish 31 = .ok (.aload_n 0, 1) := by decide +kernel
theorem dX4_finish_32 : decode cX4_finish 32 = .ok (.getfield 21, 3) := by decide +kernel
theorem dX4_finish_35 : decode cX4_finish 35 = .ok (.iload_n 3, 1) := by decide +kernel
theorem dX4_finish_36 : decode cX4_finish 36 = .ok (.invokevirtual 133, 3) := by decide +kernel
theorem dX4_finish_39 : decode cX4_finish 39 = .ok (.ifCond .eq 45, 3) := by decide +kernel
theorem dX4_finish_42 : decode cX4_finish 42 = .ok (.aload_n 0, 1) := by decide +kernel
theorem dX4_finish_43 : decode cX4_finish 43 = .ok (.getfield 54, 3) := by decide +kernel
theorem dX4_finish_46 : decode cX4_finish 46 = .ok (.bipush (-2), 2) := by decide +kernel
theorem dX4_finish_48 : decode cX4_finish 48 = .ok (.if_icmp .eq 22, 3) := by decide +kernel
theorem dX4_finish_51 : decode cX4_finish 51 = .ok (.aload_n 0, 1) := by decide +kernel
theorem dX4_finish_52 : decode cX4_finish 52 = .ok (.getfield 54, 3) := by decide +kernel
theorem dX4_finish_55 : decode cX4_finish 55 = .ok (.iload_n 3, 1) := by decide +kernel
theorem dX4_finish_56 : decode cX4_finish 56 = .ok (.if_icmp .eq 14, 3) := by decide +kernel
theorem dX4_finish_59 : decode cX4_finish 59 = .ok (.aload_n 0, 1) := by decide +kernel
theorem dX4_finish_60 : decode cX4_finish 60 = .ok (.getfield 12, 3) := by decide +kernel
theorem dX4_finish_63 : decode cX4_finish 63 = .ok (.aload_n 0, 1) := by decide +kernel
theorem dX4_finish_64 : decode cX4_finish 64 = .ok (.getfield 54, 3) := by decide +kernel
theorem dX4_finish_67 : decode cX4_finish 67 = .ok (.invokevirtual 149, 3) := by decide +kernel
theorem dX4_finish_70 : decode cX4_finish 70 = .ok (.aload_n 0, 1) := by decide +kernel
theorem dX4_finish_71 : decode cX4_finish 71 = .ok (.iload_n 3, 1) := by decide +kernel
theorem dX4_finish_72 : decode cX4_finish 72 = .ok (.invokevirtual 153, 3) := by decide +kernel
theorem dX4_finish_75 : decode cX4_finish 75 = .ok (.aload_n 0, 1) := by decide +kernel
theorem dX4_finish_76 : decode cX4_finish 76 = .ok (.getfield 12, 3) := by decide +kernel
theorem dX4_finish_79 : decode cX4_finish 79 = .ok (.iload_n 3, 1) := by decide +kernel
theorem dX4_finish_80 : decode cX4_finish 80 = .ok (.iconst 5, 1) := by decide +kernel
theorem dX4_finish_81 : decode cX4_finish 81 = .ok (.invokevirtual 137, 3) := by decide +kernel
theorem dX4_finish_84 : decode cX4_finish 84 = .ok (.aload_n 0, 1) := by decide +kernel
theorem dX4_finish_85 : decode cX4_finish 85 = .ok (.iload_n 3, 1) := by decide +kernel
theorem dX4_finish_86 : decode cX4_finish 86 = .ok (.putfield 54, 3) := by decide +kernel
theorem dX4_finish_89 : decode cX4_finish 89 = .ok (.aload_n 0, 1) := by decide +kernel
theorem dX4_finish_90 : decode cX4_finish 90 = .ok (.getfield 12, 3) := by decide +kernel
theorem dX4_finish_93 : decode cX4_finish 93 = .ok (.aload_n 0, 1) := by decide +kernel
theorem dX4_finish_94 : decode cX4_finish 94 = .ok (.getfield 44, 3) := by decide +kernel
theorem dX4_finish_97 : decode cX4_finish 97 = .ok (.iload_n 2, 1) := by decide +kernel
theorem dX4_finish_98 : decode cX4_finish 98 = .ok (.aload_n 1, 1) := by decide +kernel
theorem dX4_finish_99 : decode cX4_finish 99 = .ok (.invokevirtual 156, 3) := by decide +kernel
theorem dX4_finish_102 : decode cX4_finish 102 = .ok (.return_, 1) := by decide +kernel
theorem dX4_spendTurn_0 : decode cX4_spendTurn 0 = .ok (.aload_n 0, 1) := by decide +kernel
theorem dX4_spendTurn_1 : decode cX4_spendTurn 1 = .ok (.getfield 67, 3) := by decide +kernel
theorem dX4_spendTurn_4 : decode cX4_spendTurn 4 = .ok (.iload_n 1, 1) := by decide +kernel
theorem dX4_spendTurn_5 : decode cX4_spendTurn 5 = .ok (.invokestatic 160, 3) := by decide +kernel
theorem dX4_spendTurn_8 : decode cX4_spendTurn 8 = .ok (.ifCond .ne 29, 3) := by decide +kernel
theorem dX4_spendTurn_11 : decode cX4_spendTurn 11 = .ok (.aload_n 0, 1) := by decide +kernel
theorem dX4_spendTurn_12 : decode cX4_spendTurn 12 = .ok (.getfield 12, 3) := by decide +kernel
theorem dX4_spendTurn_15 : decode cX4_spendTurn 15 = .ok (.dup, 1) := by decide +kernel
theorem dX4_spendTurn_16 : decode cX4_spendTurn 16 = .ok (.getfield 163, 3) := by decide +kernel
theorem dX4_spendTurn_19 : decode cX4_spendTurn 19 = .ok (.iconst 1, 1) := by decide +kernel
theorem dX4_spendTurn_20 : decode cX4_spendTurn 20 = .ok (.iadd, 1) := by decide +kernel
theorem dX4_spendTurn_21 : decode cX4_spendTurn 21 = .ok (.putfield 163, 3) := by decide +kernel
theorem dX4_spendTurn_24 : decode cX4_spendTurn 24 = .ok (.aload_n 0, 1) := by decide +kernel
theorem dX4_spendTurn_25 : decode cX4_spendTurn 25 = .ok (.aload_n 0, 1) := by decide +kernel
theorem dX4_spendTurn_26 : decode cX4_spendTurn 26 = .ok (.getfield 21, 3) := by decide +kernel
theorem dX4_spendTurn_29 : decode cX4_spendTurn 29 = .ok (.invokevirtual 63, 3) := by decide +kernel
theorem dX4_spendTurn_32 : decode cX4_spendTurn 32 = .ok (.iconst 1, 1) := by decide +kernel
theorem dX4_spendTurn_33 : decode cX4_spendTurn 33 = .ok (.isub, 1) := by decide +kernel
theorem dX4_spendTurn_34 : decode cX4_spendTurn 34 = .ok (.putfield 67, 3) := by decide +kernel
theorem dX4_spendTurn_37 : decode cX4_spendTurn 37 = .ok (.aload_n 0, 1) := by decide +kernel
theorem dX4_spendTurn_38 : decode cX4_spendTurn 38 = .ok (.dup, 1) := by decide +kernel
theorem dX4_spendTurn_39 : decode cX4_spendTurn 39 = .ok (.getfield 67, 3) := by decide +kernel
theorem dX4_spendTurn_42 : decode cX4_spendTurn 42 = .ok (.iconst 1, 1) := by decide +kernel
theorem dX4_spendTurn_43 : decode cX4_spendTurn 43 = .ok (.iload_n 1, 1) := by decide +kernel
theorem dX4_spendTurn_44 : decode cX4_spendTurn 44 = .ok (.ishl, 1) := by decide +kernel
theorem dX4_spendTurn_45 : decode cX4_spendTurn 45 = .ok (.iconst (-1), 1) := by decide +kernel
theorem dX4_spendTurn_46 : decode cX4_spendTurn 46 = .ok (.ixor, 1) := by decide +kernel
theorem dX4_spendTurn_47 : decode cX4_spendTurn 47 = .ok (.iand, 1) := by decide +kernel
theorem dX4_spendTurn_48 : decode cX4_spendTurn 48 = .ok (.putfield 67, 3) := by decide +kernel
theorem dX4_spendTurn_51 : decode cX4_spendTurn 51 = .ok (.return_, 1) := by decide +kernel
theorem dX4_handOver_0 : decode cX4_handOver 0 = .ok (.aload_n 0, 1) := by decide +kernel
theorem dX4_handOver_1 : decode cX4_handOver 1 = .ok (.getfield 54, 3) := by decide +kernel
theorem dX4_handOver_4 : decode cX4_handOver 4 = .ok (.istore_n 1, 1) := by decide +kernel
theorem dX4_handOver_5 : decode cX4_handOver 5 = .ok (.aload_n 0, 1) := by decide +kernel
theorem dX4_handOver_6 : decode cX4_handOver 6 = .ok (.bipush (-2), 2) := by decide +kernel
theorem dX4_handOver_8 : decode cX4_handOver 8 = .ok (.putfield 54, 3) := by decide +kernel
theorem dX4_handOver_11 : decode cX4_handOver 11 = .ok (.aload_n 0, 1) := by decide +kernel
theorem dX4_handOver_12 : decode cX4_handOver 12 = .ok (.getfield 21, 3) := by decide +kernel
theorem dX4_handOver_15 : decode cX4_handOver 15 = .ok (.iload_n 1, 1) := by decide +kernel
theorem dX4_handOver_16 : decode cX4_handOver 16 = .ok (.invokevirtual 133, 3) := by decide +kernel
theorem dX4_handOver_19 : decode cX4_handOver 19 = .ok (.ifCond .eq 49, 3) := by decide +kernel
theorem dX4_handOver_22 : decode cX4_handOver 22 = .ok (.aload_n 0, 1) := by decide +kernel
theorem dX4_handOver_23 : decode cX4_handOver 23 = .ok (.iload_n 1, 1) := by decide +kernel
theorem dX4_handOver_24 : decode cX4_handOver 24 = .ok (.putfield 48, 3) := by decide +kernel
theorem dX4_handOver_27 : decode cX4_handOver 27 = .ok (.aload_n 0, 1) := by decide +kernel
theorem dX4_handOver_28 : decode cX4_handOver 28 = .ok (.aload_n 0, 1) := by decide +kernel
theorem dX4_handOver_29 : decode cX4_handOver 29 = .ok (.getfield 44, 3) := by decide +kernel
theorem dX4_handOver_32 : decode cX4_handOver 32 = .ok (.aload_n 0, 1) := by decide +kernel
theorem dX4_handOver_33 : decode cX4_handOver 33 = .ok (.getfield 35, 3) := by decide +kernel
theorem dX4_handOver_36 : decode cX4_handOver 36 = .ok (.iload_n 1, 1) := by decide +kernel
theorem dX4_handOver_37 : decode cX4_handOver 37 = .ok (.iaload, 1) := by decide +kernel
theorem dX4_handOver_38 : decode cX4_handOver 38 = .ok (.iadd, 1) := by decide +kernel
theorem dX4_handOver_39 : decode cX4_handOver 39 = .ok (.putfield 51, 3) := by decide +kernel
theorem dX4_handOver_42 : decode cX4_handOver 42 = .ok (.aload_n 0, 1) := by decide +kernel
theorem dX4_handOver_43 : decode cX4_handOver 43 = .ok (.getfield 12, 3) := by decide +kernel
theorem dX4_handOver_46 : decode cX4_handOver 46 = .ok (.iload_n 1, 1) := by decide +kernel
theorem dX4_handOver_47 : decode cX4_handOver 47 = .ok (.aload_n 0, 1) := by decide +kernel
theorem dX4_handOver_48 : decode cX4_handOver 48 = .ok (.getfield 44, 3) := by decide +kernel
theorem dX4_handOver_51 : decode cX4_handOver 51 = .ok (.aload_n 0, 1) := by decide +kernel
theorem dX4_handOver_52 : decode cX4_handOver 52 = .ok (.getfield 38, 3) := by decide +kernel
theorem dX4_handOver_55 : decode cX4_handOver 55 = .ok (.iload_n 1, 1) := by decide +kernel
theorem dX4_handOver_56 : decode cX4_handOver 56 = .ok (.iaload, 1) := by decide +kernel
theorem dX4_handOver_57 : decode cX4_handOver 57 = .ok (.isub, 1) := by decide +kernel
theorem dX4_handOver_58 : decode cX4_handOver 58 = .ok (.invokevirtual 166, 3) := by decide +kernel
theorem dX4_handOver_61 : decode cX4_handOver 61 = .ok (.aload_n 0, 1) := by decide +kernel
theorem dX4_handOver_62 : decode cX4_handOver 62 = .ok (.getfield 35, 3) := by decide +kernel
theorem dX4_handOver_65 : decode cX4_handOver 65 = .ok (.iload_n 1, 1) := by decide +kernel
theorem dX4_handOver_66 : decode cX4_handOver 66 = .ok (.iconst 0, 1) := by decide +kernel
theorem dX4_handOver_67 : decode cX4_handOver 67 = .ok (.iastore, 1) := by decide +kernel
theorem dX4_handOver_68 : decode cX4_handOver 68 = .ok (.return_, 1) := by decide +kernel
theorem dX4_isContested_0 : decode cX4_isContested 0 = .ok (.aload_n 0, 1) := by decide +kernel
theorem dX4_isContested_1 : decode cX4_isContested 1 = .ok (.getfield 54, 3) := by decide +kernel
theorem dX4_isContested_4 : decode cX4_isContested 4 = .ok (.bipush (-2), 2) := by decide +kernel
theorem dX4_isContested_6 : decode cX4_isContested 6 = .ok (.if_icmp .ne 16, 3) := by decide +kernel
theorem dX4_isContested_9 : decode cX4_isContested 9 = .ok (.aload_n 0, 1) := by decide +kernel
theorem dX4_isContested_10 : decode cX4_isContested 10 = .ok (.invokevirtual 169, 3) := by decide +kernel
theorem dX4_isContested_13 : decode cX4_isContested 13 = .ok (.ifCond .eq 7, 3) := by decide +kernel
theorem dX4_isContested_16 : decode cX4_isContested 16 = .ok (.iconst 1, 1) := by decide +kernel
theorem dX4_isContested_17 : decode cX4_isContested 17 = .ok (.goto 4, 3) := by decide +kernel
theorem dX4_isContested_20 : decode cX4_isContested 20 = .ok (.iconst 0, 1) := by decide +kernel
theorem dX4_isContested_21 : decode cX4_isContested 21 = .ok (.ireturn, 1) := by decide +kernel
theorem dX4_isContested_22 : decode cX4_isContested 22 = .ok (.aload_n 0, 1) := by decide +kernel
theorem dX4_isContested_23 : decode cX4_isContested 23 = .ok (.aload_n 0, 1) := by decide +kernel
theorem dX4_isContested_24 : decode cX4_isContested 24 = .ok (.getfield 54, 3) := by decide +kernel
theorem dX4_isContested_27 : decode cX4_isContested 27 = .ok (.invokevirtual 172, 3) := by decide +kernel
theorem dX4_isContested_30 : decode cX4_isContested 30 = .ok (.istore_n 1, 1) := by decide +kernel
theorem dX4_isContested_31 : decode cX4_isContested 31 = .ok (.iconst 0, 1) := by decide +kernel
theorem dX4_isContested_32 : decode cX4_isContested 32 = .ok (.istore_n 2, 1) := by decide +kernel
theorem dX4_isContested_33 : decode cX4_isContested 33 = .ok (.iload_n 2, 1) := by decide +kernel
theorem dX4_isContested_34 : decode cX4_isContested 34 = .ok (.aload_n 0, 1) := by decide +kernel
theorem dX4_isContested_35 : decode cX4_isContested 35 = .ok (.getfield 21, 3) := by decide +kernel
theorem dX4_isContested_38 : decode cX4_isContested 38 = .ok (.getfield 176, 3) := by decide +kernel
theorem dX4_isContested_41 : decode cX4_isContested 41 = .ok (.if_icmp .ge 29, 3) := by decide +kernel
theorem dX4_isContested_44 : decode cX4_isContested 44 = .ok (.aload_n 0, 1) := by decide +kernel
theorem dX4_isContested_45 : decode cX4_isContested 45 = .ok (.getfield 35, 3) := by decide +kernel
theorem dX4_isContested_48 : decode cX4_isContested 48 = .ok (.iload_n 2, 1) := by decide +kernel
theorem dX4_isContested_49 : decode cX4_isContested 49 = .ok (.iaload, 1) := by decide +kernel
theorem dX4_isContested_50 : decode cX4_isContested 50 = .ok (.ifCond .le 14, 3) := by decide +kernel
theorem dX4_isContested_53 : decode cX4_isContested 53 = .ok (.aload_n 0, 1) := by decide +kernel
theorem dX4_isContested_54 : decode cX4_isContested 54 = .ok (.iload_n 2, 1) := by decide +kernel
theorem dX4_isContested_55 : decode cX4_isContested 55 = .ok (.invokevirtual 172, 3) := by decide +kernel
theorem dX4_isContested_58 : decode cX4_isContested 58 = .ok (.iload_n 1, 1) := by decide +kernel
theorem dX4_isContested_59 : decode cX4_isContested 59 = .ok (.if_icmp .le 5, 3) := by decide +kernel
theorem dX4_isContested_62 : decode cX4_isContested 62 = .ok (.iconst 1, 1) := by decide +kernel
theorem dX4_isContested_63 : decode cX4_isContested 63 = .ok (.ireturn, 1) := by decide +kernel
theorem dX4_isContested_64 : decode cX4_isContested 64 = .ok (.iinc 2 1, 3) := by decide +kernel
theorem dX4_isContested_67 : decode cX4_isContested 67 = .ok (.goto (-34), 3) := by decide +kernel
theorem dX4_isContested_70 : decode cX4_isContested 70 = .ok (.iconst 0, 1) := by decide +kernel
theorem dX4_isContested_71 : decode cX4_isContested 71 = .ok (.ireturn, 1) := by decide +kernel
theorem dX4_begin_0 : decode cX4_begin 0 = .ok (.aload_n 0, 1) := by decide +kernel
theorem dX4_begin_1 : decode cX4_begin 1 = .ok (.aload_n 0, 1) := by decide +kernel
theorem dX4_begin_2 : decode cX4_begin 2 = .ok (.invokevirtual 169, 3) := by decide +kernel
theorem dX4_begin_5 : decode cX4_begin 5 = .ok (.putfield 60, 3) := by decide +kernel
theorem dX4_begin_8 : decode cX4_begin 8 = .ok (.aload_n 0, 1) := by decide +kernel
theorem dX4_begin_9 : decode cX4_begin 9 = .ok (.aload_n 0, 1) := by decide +kernel
theorem dX4_begin_10 : decode cX4_begin 10 = .ok (.getfield 44, 3) := by decide +kernel
theorem dX4_begin_13 : decode cX4_begin 13 = .ok (.iconst 2, 1) := by decide +kernel
theorem dX4_begin_14 : decode cX4_begin 14 = .ok (.aload_n 0, 1) := by decide +kernel
theorem dX4_begin_15 : decode cX4_begin 15 = .ok (.getfield 21, 3) := by decide +kernel
theorem dX4_begin_18 : decode cX4_begin 18 = .ok (.getfield 179, 3) := by decide +kernel
theorem dX4_begin_21 : decode cX4_begin 21 = .ok (.imul, 1) := by decide +kernel
theorem dX4_begin_22 : decode cX4_begin 22 = .ok (.iadd, 1) := by decide +kernel
theorem dX4_begin_23 : decode cX4_begin 23 = .ok (.putfield 57, 3) := by decide +kernel
theorem dX4_begin_26 : decode cX4_begin 26 = .ok (.aload_n 0, 1) := by decide +kernel
theorem dX4_begin_27 : decode cX4_begin 27 = .ok (.invokevirtual 182, 3) := by decide +kernel
theorem dX4_begin_30 : decode cX4_begin 30 = .ok (.iconst 0, 1) := by decide +kernel
theorem dX4_begin_31 : decode cX4_begin 31 = .ok (.aload_n 0, 1) := by decide +kernel
theorem dX4_begin_32 : decode cX4_begin 32 = .ok (.getfield 29, 3) := by decide +kernel
theorem dX4_begin_35 : decode cX4_begin 35 = .ok (.iconst 0, 1) := by decide +kernel
theorem dX4_begin_36 : decode cX4_begin 36 = .ok (.bipush 6, 2) := by decide +kernel
theorem dX4_begin_38 : decode cX4_begin 38 = .ok (.invokestatic 79, 3) := by decide +kernel
theorem dX4_begin_41 : decode cX4_begin 41 = .ok (.return_, 1) := by decide +kernel
theorem dX4_askers_0 : decode cX4_askers 0 = .ok (.iconst 0, 1) := by decide +kernel
theorem dX4_askers_1 : decode cX4_askers 1 = .ok (.istore_n 1, 1) := by decide +kernel
theorem dX4_askers_2 : decode cX4_askers 2 = .ok (.iconst 0, 1) := by decide +kernel
theorem dX4_askers_3 : decode cX4_askers 3 = .ok (.istore_n 2, 1) := by decide +kernel
theorem dX4_askers_4 : decode cX4_askers 4 = .ok (.iload_n 2, 1) := by decide +kernel
theorem dX4_askers_5 : decode cX4_askers 5 = .ok (.aload_n 0, 1) := by decide +kernel
theorem dX4_askers_6 : decode cX4_askers 6 = .ok (.getfield 21, 3) := by decide +kernel
theorem dX4_askers_9 : decode cX4_askers 9 = .ok (.getfield 176, 3) := by decide +kernel
theorem dX4_askers_12 : decode cX4_askers 12 = .ok (.if_icmp .ge 24, 3) := by decide +kernel
theorem dX4_askers_15 : decode cX4_askers 15 = .ok (.aload_n 0, 1) := by decide +kernel
theorem dX4_askers_16 : decode cX4_askers 16 = .ok (.getfield 35, 3) := by decide +kernel
theorem dX4_askers_19 : decode cX4_askers 19 = .ok (.iload_n 2, 1) := by decide +kernel
theorem dX4_askers_20 : decode cX4_askers 20 = .ok (.iaload, 1) := by decide +kernel
theorem dX4_askers_21 : decode cX4_askers 21 = .ok (.ifCond .le 9, 3) := by decide +kernel
theorem dX4_askers_24 : decode cX4_askers 24 = .ok (.iload_n 1, 1) := by decide +kernel
theorem dX4_askers_25 : decode cX4_askers 25 = .ok (.iconst 1, 1) := by decide +kernel
theorem dX4_askers_26 : decode cX4_askers 26 = .ok (.iload_n 2, 1) := by decide +kernel
theorem dX4_askers_27 : decode cX4_askers 27 = .ok (.ishl, 1) := by decide +kernel
theorem dX4_askers_28 : decode cX4_askers 28 = .ok (.ior, 1) := by decide +kernel
theorem dX4_askers_29 : decode cX4_askers 29 = .ok (.istore_n 1, 1) := by decide +kernel
theorem dX4_askers_30 : decode cX4_askers 30 = .ok (.iinc 2 1, 3) := by decide +kernel
theorem dX4_askers_33 : decode cX4_askers 33 = .ok (.goto (-29), 3) := by decide +kernel
theorem dX4_askers_36 : decode cX4_askers 36 = .ok (.iload_n 1, 1) := by decide +kernel
theorem dX4_askers_37 : decode cX4_askers 37 = .ok (.ireturn, 1) := by decide +kernel
theorem dX4_waitersOf_0 : decode cX4_waitersOf 0 = .ok (.iconst 0, 1) := by decide +kernel
theorem dX4_waitersOf_1 : decode cX4_waitersOf 1 = .ok (.istore_n 2, 1) := by decide +kernel
theorem dX4_waitersOf_2 : decode cX4_waitersOf 2 = .ok (.iconst 0, 1) := by decide +kernel
theorem dX4_waitersOf_3 : decode cX4_waitersOf 3 = .ok (.istore_n 3, 1) := by decide +kernel
theorem dX4_waitersOf_4 : decode cX4_waitersOf 4 = .ok (.iload_n 3, 1) := by decide +kernel
theorem dX4_waitersOf_5 : decode cX4_waitersOf 5 = .ok (.aload_n 0, 1) := by decide +kernel
theorem dX4_waitersOf_6 : decode cX4_waitersOf 6 = .ok (.getfield 21, 3) := by decide +kernel
theorem dX4_waitersOf_9 : decode cX4_waitersOf 9 = .ok (.getfield 176, 3) := by decide +kernel
theorem dX4_waitersOf_12 : decode cX4_waitersOf 12 = .ok (.if_icmp .ge 66, 3) := by decide +kernel
theorem dX4_waitersOf_15 : decode cX4_waitersOf 15 = .ok (.iconst 0, 1) := by decide +kernel
theorem dX4_waitersOf_16 : decode cX4_waitersOf 16 = .ok (.istore 4, 2) := by decide +kernel
theorem dX4_waitersOf_18 : decode cX4_waitersOf 18 = .ok (.iload 4, 2) := by decide +kernel
theorem dX4_waitersOf_20 : decode cX4_waitersOf 20 = .ok (.aload_n 0, 1) := by decide +kernel
theorem dX4_waitersOf_21 : decode cX4_waitersOf 21 = .ok (.getfield 21, 3) := by decide +kernel
theorem dX4_waitersOf_24 : decode cX4_waitersOf 24 = .ok (.getfield 176, 3) := by decide +kernel
theorem dX4_waitersOf_27 : decode cX4_waitersOf 27 = .ok (.if_icmp .ge 45, 3) := by decide +kernel
theorem dX4_waitersOf_30 : decode cX4_waitersOf 30 = .ok (.aload_n 0, 1) := by decide +kernel
theorem dX4_waitersOf_31 : decode cX4_waitersOf 31 = .ok (.getfield 41, 3) := by decide +kernel
theorem dX4_waitersOf_34 : decode cX4_waitersOf 34 = .ok (.iload 4, 2) := by decide +kernel
theorem dX4_waitersOf_36 : decode cX4_waitersOf 36 = .ok (.iaload, 1) := by decide +kernel
theorem dX4_waitersOf_37 : decode cX4_waitersOf 37 = .ok (.istore 5, 2) := by decide +kernel
theorem dX4_waitersOf_39 : decode cX4_waitersOf 39 = .ok (.iload 5, 2) := by decide +kernel
theorem dX4_waitersOf_41 : decode cX4_waitersOf 41 = .ok (.iload_n 1, 1) := by decide +kernel
theorem dX4_waitersOf_42 : decode cX4_waitersOf 42 = .ok (.if_icmp .eq 17, 3) := by decide +kernel
theorem dX4_waitersOf_45 : decode cX4_waitersOf 45 = .ok (.iload 5, 2) := by decide +kernel
theorem dX4_waitersOf_47 : decode cX4_waitersOf 47 = .ok (.ifCond .lt 19, 3) := by decide +kernel
theorem dX4_waitersOf_50 : decode cX4_waitersOf 50 = .ok (.iload_n 2, 1) := by decide +kernel
theorem dX4_waitersOf_51 : decode cX4_waitersOf 51 = .ok (.iload 5, 2) := by decide +kernel
theorem dX4_waitersOf_53 : decode cX4_waitersOf 53 = .ok (.ishr, 1) := by decide +kernel
theorem dX4_waitersOf_54 : decode cX4_waitersOf 54 = .ok (.iconst 1, 1) := by decide +kernel
theorem dX4_waitersOf_55 : decode cX4_waitersOf 55 = .ok (.iand, 1) := by decide +kernel
theorem dX4_waitersOf_56 : decode cX4_waitersOf 56 = .ok (.ifCond .eq 10, 3) := by decide +kernel
theorem dX4_waitersOf_59 : decode cX4_waitersOf 59 = .ok (.iload_n 2, 1) := by decide +kernel
theorem dX4_waitersOf_60 : decode cX4_waitersOf 60 = .ok (.iconst 1, 1) := by decide +kernel
theorem dX4_waitersOf_61 : decode cX4_waitersOf 61 = .ok (.iload 4, 2) := by decide +kernel
theorem dX4_waitersOf_63 : decode cX4_waitersOf 63 = .ok (.ishl, 1) := by decide +kernel
theorem dX4_waitersOf_64 : decode cX4_waitersOf 64 = .ok (.ior, 1) := by decide +kernel
theorem dX4_waitersOf_65 : decode cX4_waitersOf 65 = .ok (.istore_n 2, 1) := by decide +kernel
theorem dX4_waitersOf_66 : decode cX4_waitersOf 66 = .ok (.iinc 4 1, 3) := by decide +kernel
theorem dX4_waitersOf_69 : decode cX4_waitersOf 69 = .ok (.goto (-51), 3) := by decide +kernel
theorem dX4_waitersOf_72 : decode cX4_waitersOf 72 = .ok (.iinc 3 1, 3) := by decide +kernel
theorem dX4_waitersOf_75 : decode cX4_waitersOf 75 = .ok (.goto (-71), 3) := by decide +kernel
theorem dX4_waitersOf_78 : decode cX4_waitersOf 78 = .ok (.iload_n 2, 1) := by decide +kernel
theorem dX4_waitersOf_79 : decode cX4_waitersOf 79 = .ok (.ireturn, 1) := by decide +kernel
theorem dX4_rankOfDay_0 : decode cX4_rankOfDay 0 = .ok (.iconst 0, 1) := by decide +kernel
theorem dX4_rankOfDay_1 : decode cX4_rankOfDay 1 = .ok (.istore_n 2, 1) := by decide +kernel
theorem dX4_rankOfDay_2 : decode cX4_rankOfDay 2 = .ok (.iconst 1, 1) := by decide +kernel
theorem dX4_rankOfDay_3 : decode cX4_rankOfDay 3 = .ok (.iload_n 1, 1) := by decide +kernel
theorem dX4_rankOfDay_4 : decode cX4_rankOfDay 4 = .ok (.ishl, 1) := by decide +kernel
theorem dX4_rankOfDay_5 : decode cX4_rankOfDay 5 = .ok (.aload_n 0, 1) := by decide +kernel
theorem dX4_rankOfDay_6 : decode cX4_rankOfDay 6 = .ok (.iload_n 1, 1) := by decide +kernel
theorem dX4_rankOfDay_7 : decode cX4_rankOfDay 7 = .ok (.invokevirtual 186, 3) := by decide +kernel
theorem dX4_rankOfDay_10 : decode cX4_rankOfDay 10 = .ok (.ior, 1) := by decide +kernel
theorem dX4_rankOfDay_11 : decode cX4_rankOfDay 11 = .ok (.istore_n 3, 1) := by decide +kernel
theorem dX4_rankOfDay_12 : decode cX4_rankOfDay 12 = .ok (.iconst 0, 1) := by decide +kernel
theorem dX4_rankOfDay_13 : decode cX4_rankOfDay 13 = .ok (.istore 4, 2) := by decide +kernel
theorem dX4_rankOfDay_15 : decode cX4_rankOfDay 15 = .ok (.iload 4, 2) := by decide +kernel
theorem dX4_rankOfDay_17 : decode cX4_rankOfDay 17 = .ok (.aload_n 0, 1) := by decide +kernel
theorem dX4_rankOfDay_18 : decode cX4_rankOfDay 18 = .ok (.getfield 21, 3) := by decide +kernel
theorem dX4_rankOfDay_21 : decode cX4_rankOfDay 21 = .ok (.getfield 176, 3) := by decide +kernel
theorem dX4_rankOfDay_24 : decode cX4_rankOfDay 24 = .ok (.if_icmp .ge 33, 3) := by decide +kernel
theorem dX4_rankOfDay_27 : decode cX4_rankOfDay 27 = .ok (.iload_n 3, 1) := by decide +kernel
theorem dX4_rankOfDay_28 : decode cX4_rankOfDay 28 = .ok (.iload 4, 2) := by decide +kernel
theorem dX4_rankOfDay_30 : decode cX4_rankOfDay 30 = .ok (.invokestatic 160, 3) := by decide +kernel
theorem dX4_rankOfDay_33 : decode cX4_rankOfDay 33 = .ok (.ifCond .eq 18, 3) := by decide +kernel
theorem dX4_rankOfDay_36 : decode cX4_rankOfDay 36 = .ok (.iload_n 2, 1) := by decide +kernel
theorem dX4_rankOfDay_37 : decode cX4_rankOfDay 37 = .ok (.aload_n 0, 1) := by decide +kernel
theorem dX4_rankOfDay_38 : decode cX4_rankOfDay 38 = .ok (.getfield 21, 3) := by decide +kernel
theorem dX4_rankOfDay_41 : decode cX4_rankOfDay 41 = .ok (.getfield 189, 3) := by decide +kernel
theorem dX4_rankOfDay_44 : decode cX4_rankOfDay 44 = .ok (.iload 4, 2) := by decide +kernel
theorem dX4_rankOfDay_46 : decode cX4_rankOfDay 46 = .ok (.iaload, 1) := by decide +kernel
theorem dX4_rankOfDay_47 : decode cX4_rankOfDay 47 = .ok (.invokestatic 192, 3) := by decide +kernel
theorem dX4_rankOfDay_50 : decode cX4_rankOfDay 50 = .ok (.istore_n 2, 1) := by decide +kernel
theorem dX4_rankOfDay_51 : decode cX4_rankOfDay 51 = .ok (.iinc 4 1, 3) := by decide +kernel
theorem dX4_rankOfDay_54 : decode cX4_rankOfDay 54 = .ok (.goto (-39), 3) := by decide +kernel
theorem dX4_rankOfDay_57 : decode cX4_rankOfDay 57 = .ok (.iload_n 2, 1) := by decide +kernel
theorem dX4_rankOfDay_58 : decode cX4_rankOfDay 58 = .ok (.ireturn, 1) := by decide +kernel
theorem dX4_rankWords_0 : decode cX4_rankWords 0 = .ok (.iconst 0, 1) := by decide +kernel
theorem dX4_rankWords_1 : decode cX4_rankWords 1 = .ok (.istore_n 1, 1) := by decide +kernel
theorem dX4_rankWords_2 : decode cX4_rankWords 2 = .ok (.iload_n 1, 1) := by decide +kernel
theorem dX4_rankWords_3 : decode cX4_rankWords 3 = .ok (.aload_n 0, 1) := by decide +kernel
theorem dX4_rankWords_4 : decode cX4_rankWords 4 = .ok (.getfield 21, 3) := by decide +kernel
theorem dX4_rankWords_7 : decode cX4_rankWords 7 = .ok (.getfield 176, 3) := by decide +kernel
theorem dX4_rankWords_10 : decode cX4_rankWords 10 = .ok (.if_icmp .ge 42, 3) := by decide +kernel
theorem dX4_rankWords_13 : decode cX4_rankWords 13 = .ok (.iload_n 1, 1) := by decide +kernel
theorem dX4_rankWords_14 : decode cX4_rankWords 14 = .ok (.bipush 6, 2) := by decide +kernel
theorem dX4_rankWords_16 : decode cX4_rankWords 16 = .ok (.if_icmp .ge 36, 3) := by decide +kernel
theorem dX4_rankWords_19 : decode cX4_rankWords 19 = .ok (.aload_n 0, 1) := by decide +kernel
theorem dX4_rankWords_20 : decode cX4_rankWords 20 = .ok (.getfield 25, 3) := by decide +kernel
theorem dX4_rankWords_23 : decode cX4_rankWords 23 = .ok (.iload_n 1, 1) := by decide +kernel
theorem dX4_rankWords_24 : decode cX4_rankWords 24 = .ok (.aload_n 0, 1) := by decide +kernel
theorem dX4_rankWords_25 : decode cX4_rankWords 25 = .ok (.iload_n 1, 1) := by decide +kernel
theorem dX4_rankWords_26 : decode cX4_rankWords 26 = .ok (.invokevirtual 172, 3) := by decide +kernel
theorem dX4_rankWords_29 : decode cX4_rankWords 29 = .ok (.iconst 3, 1) := by decide +kernel
theorem dX4_rankWords_30 : decode cX4_rankWords 30 = .ok (.ishl, 1) := by decide +kernel
theorem dX4_rankWords_31 : decode cX4_rankWords 31 = .ok (.aload_n 0, 1) := by decide +kernel
theorem dX4_rankWords_32 : decode cX4_rankWords 32 = .ok (.getfield 67, 3) := by decide +kernel
theorem dX4_rankWords_35 : decode cX4_rankWords 35 = .ok (.iload_n 1, 1) := by decide +kernel
theorem dX4_rankWords_36 : decode cX4_rankWords 36 = .ok (.ishr, 1) := by decide +kernel
theorem dX4_rankWords_37 : decode cX4_rankWords 37 = .ok (.iconst 1, 1) := by decide +kernel
theorem dX4_rankWords_38 : decode cX4_rankWords 38 = .ok (.iand, 1) := by decide +kernel
theorem dX4_rankWords_39 : decode cX4_rankWords 39 = .ok (.iconst 2, 1) := by decide +kernel
theorem dX4_rankWords_40 : decode cX4_rankWords 40 = .ok (.ishl, 1) := by decide +kernel
theorem dX4_rankWords_41 : decode cX4_rankWords 41 = .ok (.ior, 1) := by decide +kernel
theorem dX4_rankWords_42 : decode cX4_rankWords 42 = .ok (.invokestatic 197, 3) := by decide +kernel
theorem dX4_rankWords_45 : decode cX4_rankWords 45 = .ok (.iastore, 1) := by decide +kernel
theorem dX4_rankWords_46 : decode cX4_rankWords 46 = .ok (.iinc 1 1, 3) := by decide +kernel
theorem dX4_rankWords_49 : decode cX4_rankWords 49 = .ok (.goto (-47), 3) := by decide +kernel
theorem dX4_rankWords_52 : decode cX4_rankWords 52 = .ok (.aload_n 0, 1) := by decide +kernel
theorem dX4_rankWords_53 : decode cX4_rankWords 53 = .ok (.getfield 25, 3) := by decide +kernel
theorem dX4_rankWords_56 : decode cX4_rankWords 56 = .ok (.areturn, 1) := by decide +kernel
theorem dX4_linesThat_0 : decode cX4_linesThat 0 = .ok (.iconst 0, 1) := by decide +kernel
theorem dX4_linesThat_1 : decode cX4_linesThat 1 = .ok (.istore_n 2, 1) := by decide +kernel
theorem dX4_linesThat_2 : decode cX4_linesThat 2 = .ok (.iconst 0, 1) := by decide +kernel
theorem dX4_linesThat_3 : decode cX4_linesThat 3 = .ok (.istore_n 3, 1) := by decide +kernel
theorem dX4_linesThat_4 : decode cX4_linesThat 4 = .ok (.iload_n 3, 1) := by decide +kernel
theorem dX4_linesThat_5 : decode cX4_linesThat 5 = .ok (.bipush 6, 2) := by decide +kernel
theorem dX4_linesThat_7 : decode cX4_linesThat 7 = .ok (.if_icmp .ge 25, 3) := by decide +kernel
theorem dX4_linesThat_10 : decode cX4_linesThat 10 = .ok (.aload_n 0, 1) := by decide +kernel
theorem dX4_linesThat_11 : decode cX4_linesThat 11 = .ok (.getfield 32, 3) := by decide +kernel
theorem dX4_linesThat_14 : decode cX4_linesThat 14 = .ok (.iload_n 3, 1) := by decide +kernel
theorem dX4_linesThat_15 : decode cX4_linesThat 15 = .ok (.iaload, 1) := by decide +kernel
theorem dX4_linesThat_16 : decode cX4_linesThat 16 = .ok (.iload_n 1, 1) := by decide +kernel
theorem dX4_linesThat_17 : decode cX4_linesThat 17 = .ok (.if_icmp .ne 9, 3) := by decide +kernel
theorem dX4_linesThat_20 : decode cX4_linesThat 20 = .ok (.iload_n 2, 1) := by decide +kernel
theorem dX4_linesThat_21 : decode cX4_linesThat 21 = .ok (.iconst 1, 1) := by decide +kernel
theorem dX4_linesThat_22 : decode cX4_linesThat 22 = .ok (.iload_n 3, 1) := by decide +kernel
theorem dX4_linesThat_23 : decode cX4_linesThat 23 = .ok (.ishl, 1) := by decide +kernel
theorem dX4_linesThat_24 : decode cX4_linesThat 24 = .ok (.ior, 1) := by decide +kernel
theorem dX4_linesThat_25 : decode cX4_linesThat 25 = .ok (.istore_n 2, 1) := by decide +kernel
theorem dX4_linesThat_26 : decode cX4_linesThat 26 = .ok (.iinc 3 1, 3) := by decide +kernel
theorem dX4_linesThat_29 : decode cX4_linesThat 29 = .ok (.goto (-25), 3) := by decide +kernel
theorem dX4_linesThat_32 : decode cX4_linesThat 32 = .ok (.iload_n 2, 1) := by decide +kernel
theorem dX4_linesThat_33 : decode cX4_linesThat 33 = .ok (.ireturn, 1) := by decide +kernel
theorem dX4_hurtLines_0 : decode cX4_hurtLines 0 = .ok (.bipush 6, 2) := by decide +kernel
theorem dX4_hurtLines_2 : decode cX4_hurtLines 2 = .ok (.aload_n 0, 1) := by decide +kernel
theorem dX4_hurtLines_3 : decode cX4_hurtLines 3 = .ok (.iconst 0, 1) := by decide +kernel
theorem dX4_hurtLines_4 : decode cX4_hurtLines 4 = .ok (.invokevirtual 200, 3) := by decide +kernel
theorem dX4_hurtLines_7 : decode cX4_hurtLines 7 = .ok (.invokestatic 203, 3) := by decide +kernel
theorem dX4_hurtLines_10 : decode cX4_hurtLines 10 = .ok (.isub, 1) := by decide +kernel
theorem dX4_hurtLines_11 : decode cX4_hurtLines 11 = .ok (.ireturn, 1) := by decide +kernel
theorem dX4_letLine_0 : decode cX4_letLine 0 = .ok (.iload_n 1, 1) := by decide +kernel
theorem dX4_letLine_1 : decode cX4_letLine 1 = .ok (.bipush 6, 2) := by decide +kernel
theorem dX4_letLine_3 : decode cX4_letLine 3 = .ok (.invokestatic 208, 3) := by decide +kernel
theorem dX4_letLine_6 : decode cX4_letLine 6 = .ok (.ifCond .ne 5, 3) := by decide +kernel
theorem dX4_letLine_9 : decode cX4_letLine 9 = .ok (.iconst (-1), 1) := by decide +kernel
theorem dX4_letLine_10 : decode cX4_letLine 10 = .ok (.ireturn, 1) := by decide +kernel
theorem dX4_letLine_11 : decode cX4_letLine 11 = .ok (.aload_n 0, 1) := by decide +kernel
theorem dX4_letLine_12 : decode cX4_letLine 12 = .ok (.getfield 32, 3) := by decide +kernel
theorem dX4_letLine_15 : decode cX4_letLine 15 = .ok (.iload_n 1, 1) := by decide +kernel
theorem dX4_letLine_16 : decode cX4_letLine 16 = .ok (.iaload, 1) := by decide +kernel
theorem dX4_letLine_17 : decode cX4_letLine 17 = .ok (.istore_n 3, 1) := by decide +kernel
theorem dX4_letLine_18 : decode cX4_letLine 18 = .ok (.aload_n 0, 1) := by decide +kernel
theorem dX4_letLine_19 : decode cX4_letLine 19 = .ok (.getfield 32, 3) := by decide +kernel
theorem dX4_letLine_22 : decode cX4_letLine 22 = .ok (.iload_n 1, 1) := by decide +kernel
theorem dX4_letLine_23 : decode cX4_letLine 23 = .ok (.iload_n 2, 1) := by decide +kernel
theorem dX4_letLine_24 : decode cX4_letLine 24 = .ok (.iastore, 1) := by decide +kernel
theorem dX4_letLine_25 : decode cX4_letLine 25 = .ok (.iload_n 3, 1) := by decide +kernel
theorem dX4_letLine_26 : decode cX4_letLine 26 = .ok (.ireturn, 1) := by decide +kernel
theorem dX4_letWait_0 : decode cX4_letWait 0 = .ok (.aload_n 0, 1) := by decide +kernel
theorem dX4_letWait_1 : decode cX4_letWait 1 = .ok (.getfield 21, 3) := by decide +kernel
theorem dX4_letWait_4 : decode cX4_letWait 4 = .ok (.iload_n 1, 1) := by decide +kernel
theorem dX4_letWait_5 : decode cX4_letWait 5 = .ok (.invokevirtual 133, 3) := by decide +kernel
theorem dX4_letWait_8 : decode cX4_letWait 8 = .ok (.ifCond .ne 5, 3) := by decide +kernel
theorem dX4_letWait_11 : decode cX4_letWait 11 = .ok (.iconst (-1), 1) := by decide +kernel
theorem dX4_letWait_12 : decode cX4_letWait 12 = .ok (.ireturn, 1) := by decide +kernel
theorem dX4_letWait_13 : decode cX4_letWait 13 = .ok (.aload_n 0, 1) := by decide +kernel
theorem dX4_letWait_14 : decode cX4_letWait 14 = .ok (.getfield 41, 3) := by decide +kernel
theorem dX4_letWait_17 : decode cX4_letWait 17 = .ok (.iload_n 1, 1) := by decide +kernel
theorem dX4_letWait_18 : decode cX4_letWait 18 = .ok (.iaload, 1) := by decide +kernel
theorem dX4_letWait_19 : decode cX4_letWait 19 = .ok (.istore_n 3, 1) := by decide +kernel
theorem dX4_letWait_20 : decode cX4_letWait 20 = .ok (.aload_n 0, 1) := by decide +kernel
theorem dX4_letWait_21 : decode cX4_letWait 21 = .ok (.getfield 41, 3) := by decide +kernel
theorem dX4_letWait_24 : decode cX4_letWait 24 = .ok (.iload_n 1, 1) := by decide +kernel
theorem dX4_letWait_25 : decode cX4_letWait 25 = .ok (.iload_n 2, 1) := by decide +kernel
theorem dX4_letWait_26 : decode cX4_letWait 26 = .ok (.iastore, 1) := by decide +kernel
theorem dX4_letWait_27 : decode cX4_letWait 27 = .ok (.iload_n 3, 1) := by decide +kernel
theorem dX4_letWait_28 : decode cX4_letWait 28 = .ok (.ireturn, 1) := by decide +kernel
theorem dX4_asksToCome_0 : decode cX4_asksToCome 0 = .ok (.iconst 0, 1) := by decide +kernel
theorem dX4_asksToCome_1 : decode cX4_asksToCome 1 = .ok (.istore_n 1, 1) := by decide +kernel
theorem dX4_asksToCome_2 : decode cX4_asksToCome 2 = .ok (.iconst 0, 1) := by decide +kernel
theorem dX4_asksToCome_3 : decode cX4_asksToCome 3 = .ok (.istore_n 2, 1) := by decide +kernel
theorem dX4_asksToCome_4 : decode cX4_asksToCome 4 = .ok (.iload_n 2, 1) := by decide +kernel
theorem dX4_asksToCome_5 : decode cX4_asksToCome 5 = .ok (.aload_n 0, 1) := by decide +kernel
theorem dX4_asksToCome_6 : decode cX4_asksToCome 6 = .ok (.getfield 21, 3) := by decide +kernel
theorem dX4_asksToCome_9 : decode cX4_asksToCome 9 = .ok (.getfield 117, 3) := by decide +kernel
theorem dX4_asksToCome_12 : decode cX4_asksToCome 12 = .ok (.if_icmp .ge 34, 3) := by decide +kernel
theorem dX4_asksToCome_15 : decode cX4_asksToCome 15 = .ok (.iload_n 2, 1) := by decide +kernel
theorem dX4_asksToCome_16 : decode cX4_asksToCome 16 = .ok (.bipush 12, 2) := by decide +kernel
theorem dX4_asksToCome_18 : decode cX4_asksToCome 18 = .ok (.if_icmp .ge 28, 3) := by decide +kernel
theorem dX4_asksToCome_21 : decode cX4_asksToCome 21 = .ok (.aload_n 0, 1) := by decide +kernel
theorem dX4_asksToCome_22 : decode cX4_asksToCome 22 = .ok (.getfield 21, 3) := by decide +kernel
theorem dX4_asksToCome_25 : decode cX4_asksToCome 25 = .ok (.getfield 120, 3) := by decide +kernel
theorem dX4_asksToCome_28 : decode cX4_asksToCome 28 = .ok (.iload_n 2, 1) := by decide +kernel
theorem dX4_asksToCome_29 : decode cX4_asksToCome 29 = .ok (.iaload, 1) := by decide +kernel
theorem dX4_asksToCome_30 : decode cX4_asksToCome 30 = .ok (.aload_n 0, 1) := by decide +kernel
theorem dX4_asksToCome_31 : decode cX4_asksToCome 31 = .ok (.getfield 44, 3) := by decide +kernel
theorem dX4_asksToCome_34 : decode cX4_asksToCome 34 = .ok (.if_icmp .le 6, 3) := by decide +kernel
theorem dX4_asksToCome_37 : decode cX4_asksToCome 37 = .ok (.iinc 1 1, 3) := by decide +kernel
theorem dX4_asksToCome_40 : decode cX4_asksToCome 40 = .ok (.iinc 2 1, 3) := by decide +kernel
theorem dX4_asksToCome_43 : decode cX4_asksToCome 43 = .ok (.goto (-39), 3) := by decide +kernel
theorem dX4_asksToCome_46 : decode cX4_asksToCome 46 = .ok (.iload_n 1, 1) := by decide +kernel
theorem dX4_asksToCome_47 : decode cX4_asksToCome 47 = .ok (.ireturn, 1) := by decide +kernel
theorem dX4_longestAsking_0 : decode cX4_longestAsking 0 = .ok (.bipush (-2), 2) := by decide +kernel
theorem dX4_longestAsking_2 : decode cX4_longestAsking 2 = .ok (.istore_n 1, 1) := by decide +kernel
theorem dX4_longestAsking_3 : decode cX4_longestAsking 3 = .ok (.iconst 0, 1) := by decide +kernel
theorem dX4_longestAsking_4 : decode cX4_longestAsking 4 = .ok (.istore_n 2, 1) := by decide +kernel
theorem dX4_longestAsking_5 : decode cX4_longestAsking 5 = .ok (.iload_n 2, 1) := by decide +kernel
theorem dX4_longestAsking_6 : decode cX4_longestAsking 6 = .ok (.bipush 10, 2) := by decide +kernel
theorem dX4_longestAsking_8 : decode cX4_longestAsking 8 = .ok (.if_icmp .ge 59, 3) := by decide +kernel
theorem dX4_longestAsking_11 : decode cX4_longestAsking 11 = .ok (.aload_n 0, 1) := by decide +kernel
theorem dX4_longestAsking_12 : decode cX4_longestAsking 12 = .ok (.getfield 21, 3) := by decide +kernel
theorem dX4_longestAsking_15 : decode cX4_longestAsking 15 = .ok (.iload_n 2, 1) := by decide +kernel
theorem dX4_longestAsking_16 : decode cX4_longestAsking 16 = .ok (.invokevirtual 211, 3) := by decide +kernel
theorem dX4_longestAsking_19 : decode cX4_longestAsking 19 = .ok (.istore_n 3, 1) := by decide +kernel
theorem dX4_longestAsking_20 : decode cX4_longestAsking 20 = .ok (.aload_n 0, 1) := by decide +kernel
theorem dX4_longestAsking_21 : decode cX4_longestAsking 21 = .ok (.getfield 21, 3) := by decide +kernel
theorem dX4_longestAsking_24 : decode cX4_longestAsking 24 = .ok (.iload_n 3, 1) := by decide +kernel
theorem dX4_longestAsking_25 : decode cX4_longestAsking 25 = .ok (.invokevirtual 133, 3) := by decide +kernel
theorem dX4_longestAsking_28 : decode cX4_longestAsking 28 = .ok (.ifCond .eq 33, 3) := by decide +kernel
theorem dX4_longestAsking_31 : decode cX4_longestAsking 31 = .ok (.aload_n 0, 1) := by decide +kernel
theorem dX4_longestAsking_32 : decode cX4_longestAsking 32 = .ok (.getfield 35, 3) := by decide +kernel
theorem dX4_longestAsking_35 : decode cX4_longestAsking 35 = .ok (.iload_n 3, 1) := by decide +kernel
theorem dX4_longestAsking_36 : decode cX4_longestAsking 36 = .ok (.iaload, 1) := by decide +kernel
theorem dX4_longestAsking_37 : decode cX4_longestAsking 37 = .ok (.ifCond .le 24, 3) := by decide +kernel
theorem dX4_longestAsking_40 : decode cX4_longestAsking 40 = .ok (.iload_n 1, 1) := by decide +kernel
theorem dX4_longestAsking_41 : decode cX4_longestAsking 41 = .ok (.ifCond .lt 18, 3) := by decide +kernel
theorem dX4_longestAsking_44 : decode cX4_longestAsking 44 = .ok (.aload_n 0, 1) := by decide +kernel
theorem dX4_longestAsking_45 : decode cX4_longestAsking 45 = .ok (.getfield 38, 3) := by decide +kernel
theorem dX4_longestAsking_48 : decode cX4_longestAsking 48 = .ok (.iload_n 3, 1) := by decide +kernel
theorem dX4_longestAsking_49 : decode cX4_longestAsking 49 = .ok (.iaload, 1) := by decide +kernel
theorem dX4_longestAsking_50 : decode cX4_longestAsking 50 = .ok (.aload_n 0, 1) := by decide +kernel
theorem dX4_longestAsking_51 : decode cX4_longestAsking 51 = .ok (.getfield 38, 3) := by decide +kernel
theorem dX4_longestAsking_54 : decode cX4_longestAsking 54 = .ok (.iload_n 1, 1) := by decide +kernel
theorem dX4_longestAsking_55 : decode cX4_longestAsking 55 = .ok (.iaload, 1) := by decide +kernel
theorem dX4_longestAsking_56 : decode cX4_longestAsking 56 = .ok (.if_icmp .ge 5, 3) := by decide +kernel
theorem dX4_longestAsking_59 : decode cX4_longestAsking 59 = .ok (.iload_n 3, 1) := by decide +kernel
theorem dX4_longestAsking_60 : decode cX4_longestAsking 60 = .ok (.istore_n 1, 1) := by decide +kernel
theorem dX4_longestAsking_61 : decode cX4_longestAsking 61 = .ok (.iinc 2 1, 3) := by decide +kernel
theorem dX4_longestAsking_64 : decode cX4_longestAsking 64 = .ok (.goto (-59), 3) := by decide +kernel
theorem dX4_longestAsking_67 : decode cX4_longestAsking 67 = .ok (.iload_n 1, 1) := by decide +kernel
theorem dX4_longestAsking_68 : decode cX4_longestAsking 68 = .ok (.ireturn, 1) := by decide +kernel
theorem dX4_neverMaster_0 : decode cX4_neverMaster 0 = .ok (.iload_n 1, 1) := by decide +kernel
theorem dX4_neverMaster_1 : decode cX4_neverMaster 1 = .ok (.istore_n 2, 1) := by decide +kernel
theorem dX4_neverMaster_2 : decode cX4_neverMaster 2 = .ok (.iconst 0, 1) := by decide +kernel
theorem dX4_neverMaster_3 : decode cX4_neverMaster 3 = .ok (.istore_n 3, 1) := by decide +kernel
theorem dX4_neverMaster_4 : decode cX4_neverMaster 4 = .ok (.iload_n 3, 1) := by decide +kernel
theorem dX4_neverMaster_5 : decode cX4_neverMaster 5 = .ok (.bipush 10, 2) := by decide +kernel
theorem dX4_neverMaster_7 : decode cX4_neverMaster 7 = .ok (.if_icmp .ge 54, 3) := by decide +kernel
theorem dX4_neverMaster_10 : decode cX4_neverMaster 10 = .ok (.aload_n 0, 1) := by decide +kernel
theorem dX4_neverMaster_11 : decode cX4_neverMaster 11 = .ok (.getfield 21, 3) := by decide +kernel
theorem dX4_neverMaster_14 : decode cX4_neverMaster 14 = .ok (.iload_n 3, 1) := by decide +kernel
theorem dX4_neverMaster_15 : decode cX4_neverMaster 15 = .ok (.invokevirtual 211, 3) := by decide +kernel
theorem dX4_neverMaster_18 : decode cX4_neverMaster 18 = .ok (.istore 4, 2) := by decide +kernel
theorem dX4_neverMaster_20 : decode cX4_neverMaster 20 = .ok (.aload_n 0, 1) := by decide +kernel
theorem dX4_neverMaster_21 : decode cX4_neverMaster 21 = .ok (.getfield 21, 3) := by decide +kernel
theorem dX4_neverMaster_24 : decode cX4_neverMaster 24 = .ok (.iload 4, 2) := by decide +kernel
theorem dX4_neverMaster_26 : decode cX4_neverMaster 26 = .ok (.invokevirtual 133, 3) := by decide +kernel
theorem dX4_neverMaster_29 : decode cX4_neverMaster 29 = .ok (.ifCond .eq 26, 3) := by decide +kernel
theorem dX4_neverMaster_32 : decode cX4_neverMaster 32 = .ok (.aload_n 0, 1) := by decide +kernel
theorem dX4_neverMaster_33 : decode cX4_neverMaster 33 = .ok (.getfield 12, 3) := by decide +kernel
theorem dX4_neverMaster_36 : decode cX4_neverMaster 36 = .ok (.iload 4, 2) := by decide +kernel
theorem dX4_neverMaster_38 : decode cX4_neverMaster 38 = .ok (.iconst 0, 1) := by decide +kernel
theorem dX4_neverMaster_39 : decode cX4_neverMaster 39 = .ok (.invokevirtual 93, 3) := by decide +kernel
theorem dX4_neverMaster_42 : decode cX4_neverMaster 42 = .ok (.ifCond .ne 13, 3) := by decide +kernel
theorem dX4_neverMaster_45 : decode cX4_neverMaster 45 = .ok (.iload_n 2, 1) := by decide +kernel
theorem dX4_neverMaster_46 : decode cX4_neverMaster 46 = .ok (.ifCond .ne 6, 3) := by decide +kernel
theorem dX4_neverMaster_49 : decode cX4_neverMaster 49 = .ok (.iload 4, 2) := by decide +kernel
theorem dX4_neverMaster_51 : decode cX4_neverMaster 51 = .ok (.ireturn, 1) := by decide +kernel
theorem dX4_neverMaster_52 : decode cX4_neverMaster 52 = .ok (.iinc 2 (-1), 3) := by decide +kernel
theorem dX4_neverMaster_55 : decode cX4_neverMaster 55 = .ok (.iinc 3 1, 3) := by decide +kernel
theorem dX4_neverMaster_58 : decode cX4_neverMaster 58 = .ok (.goto (-54), 3) := by decide +kernel
theorem dX4_neverMaster_61 : decode cX4_neverMaster 61 = .ok (.iconst (-1), 1) := by decide +kernel
theorem dX4_neverMaster_62 : decode cX4_neverMaster 62 = .ok (.ireturn, 1) := by decide +kernel
theorem dX4_boardState_0 : decode cX4_boardState 0 = .ok (.aload_n 0, 1) := by decide +kernel
theorem dX4_boardState_1 : decode cX4_boardState 1 = .ok (.getfield 21, 3) := by decide +kernel
theorem dX4_boardState_4 : decode cX4_boardState 4 = .ok (.iload_n 1, 1) := by decide +kernel
theorem dX4_boardState_5 : decode cX4_boardState 5 = .ok (.invokevirtual 133, 3) := by decide +kernel
theorem dX4_boardState_8 : decode cX4_boardState 8 = .ok (.ifCond .ne 5, 3) := by decide +kernel
theorem dX4_boardState_11 : decode cX4_boardState 11 = .ok (.iconst (-1), 1) := by decide +kernel
theorem dX4_boardState_12 : decode cX4_boardState 12 = .ok (.ireturn, 1) := by decide +kernel
theorem dX4_boardState_13 : decode cX4_boardState 13 = .ok (.iload_n 2, 1) := by decide +kernel
theorem dX4_boardState_14 : decode cX4_boardState 14 = .ok (.tableswitch 56 3 5 #[26, 32, 49], 26) := by decide +kernel
theorem dX4_boardState_40 : decode cX4_boardState 40 = .ok (.aload_n 0, 1) := by decide +kernel
theorem dX4_boardState_41 : decode cX4_boardState 41 = .ok (.iload_n 1, 1) := by decide +kernel
theorem dX4_boardState_42 : decode cX4_boardState 42 = .ok (.invokevirtual 172, 3) := by decide +kernel
theorem dX4_boardState_45 : decode cX4_boardState 45 = .ok (.ireturn, 1) := by decide +kernel
theorem dX4_boardState_46 : decode cX4_boardState 46 = .ok (.aload_n 0, 1) := by decide +kernel
theorem dX4_boardState_47 : decode cX4_boardState 47 = .ok (.getfield 67, 3) := by decide +kernel
theorem dX4_boardState_50 : decode cX4_boardState 50 = .ok (.iload_n 1, 1) := by decide +kernel
theorem dX4_boardState_51 : decode cX4_boardState 51 = .ok (.invokestatic 160, 3) := by decide +kernel
theorem dX4_boardState_54 : decode cX4_boardState 54 = .ok (.ifCond .eq 7, 3) := by decide +kernel
theorem dX4_boardState_57 : decode cX4_boardState 57 = .ok (.iconst 1, 1) := by decide +kernel
theorem dX4_boardState_58 : decode cX4_boardState 58 = .ok (.goto 4, 3) := by decide +kernel
theorem dX4_boardState_61 : decode cX4_boardState 61 = .ok (.iconst 0, 1) := by decide +kernel
theorem dX4_boardState_62 : decode cX4_boardState 62 = .ok (.ireturn, 1) := by decide +kernel
theorem dX4_boardState_63 : decode cX4_boardState 63 = .ok (.aload_n 0, 1) := by decide +kernel
theorem dX4_boardState_64 : decode cX4_boardState 64 = .ok (.getfield 35, 3) := by decide +kernel
theorem dX4_boardState_67 : decode cX4_boardState 67 = .ok (.iload_n 1, 1) := by decide +kernel
theorem dX4_boardState_68 : decode cX4_boardState 68 = .ok (.iaload, 1) := by decide +kernel
theorem dX4_boardState_69 : decode cX4_boardState 69 = .ok (.ireturn, 1) := by decide +kernel
theorem dX4_boardState_70 : decode cX4_boardState 70 = .ok (.aload_n 0, 1) := by decide +kernel
theorem dX4_boardState_71 : decode cX4_boardState 71 = .ok (.getfield 41, 3) := by decide +kernel
theorem dX4_boardState_74 : decode cX4_boardState 74 = .ok (.iload_n 1, 1) := by decide +kernel
theorem dX4_boardState_75 : decode cX4_boardState 75 = .ok (.iaload, 1) := by decide +kernel
theorem dX4_boardState_76 : decode cX4_boardState 76 = .ok (.ireturn, 1) := by decide +kernel
theorem dX4_state_0 : decode cX4_state 0 = .ok (.iload_n 1, 1) := by decide +kernel
theorem dX4_state_1 : decode cX4_state 1 = .ok (.tableswitch 69 0 5 #[39, 44, 49, 54, 59, 64], 39) := by decide +kernel
theorem dX4_state_40 : decode cX4_state 40 = .ok (.aload_n 0, 1) := by decide +kernel
theorem dX4_state_41 : decode cX4_state 41 = .ok (.getfield 48, 3) := by decide +kernel
theorem dX4_state_44 : decode cX4_state 44 = .ok (.ireturn, 1) := by decide +kernel
theorem dX4_state_45 : decode cX4_state 45 = .ok (.aload_n 0, 1) := by decide +kernel
theorem dX4_state_46 : decode cX4_state 46 = .ok (.getfield 51, 3) := by decide +kernel
theorem dX4_state_49 : decode cX4_state 49 = .ok (.ireturn, 1) := by decide +kernel
theorem dX4_state_50 : decode cX4_state 50 = .ok (.aload_n 0, 1) := by decide +kernel
theorem dX4_state_51 : decode cX4_state 51 = .ok (.getfield 54, 3) := by decide +kernel
theorem dX4_state_54 : decode cX4_state 54 = .ok (.ireturn, 1) := by decide +kernel
theorem dX4_state_55 : decode cX4_state 55 = .ok (.aload_n 0, 1) := by decide +kernel
theorem dX4_state_56 : decode cX4_state 56 = .ok (.getfield 57, 3) := by decide +kernel
theorem dX4_state_59 : decode cX4_state 59 = .ok (.ireturn, 1) := by decide +kernel
theorem dX4_state_60 : decode cX4_state 60 = .ok (.aload_n 0, 1) := by decide +kernel
theorem dX4_state_61 : decode cX4_state 61 = .ok (.getfield 60, 3) := by decide +kernel
theorem dX4_state_64 : decode cX4_state 64 = .ok (.ireturn, 1) := by decide +kernel
theorem dX4_state_65 : decode cX4_state 65 = .ok (.aload_n 0, 1) := by decide +kernel
theorem dX4_state_66 : decode cX4_state 66 = .ok (.invokevirtual 169, 3) := by decide +kernel
theorem dX4_state_69 : decode cX4_state 69 = .ok (.ireturn, 1) := by decide +kernel
theorem dX4_state_70 : decode cX4_state 70 = .ok (.aload_n 0, 1) := by decide +kernel
theorem dX4_state_71 : decode cX4_state 71 = .ok (.getfield 12, 3) := by decide +kernel
theorem dX4_state_74 : decode cX4_state 74 = .ok (.iload_n 1, 1) := by decide +kernel
theorem dX4_state_75 : decode cX4_state 75 = .ok (.invokevirtual 214, 3) := by decide +kernel
theorem dX4_state_78 : decode cX4_state 78 = .ok (.ireturn, 1) := by decide +kernel
theorem dX5_init_0 : decode cX5_init 0 = .ok (.aload_n 0, 1) := by decide +kernel
theorem dX5_init_1 : decode cX5_init 1 = .ok (.invokespecial 3, 3) := by decide +kernel
theorem dX5_init_4 : decode cX5_init 4 = .ok (.aload_n 0, 1) := by decide +kernel
theorem dX5_init_5 : decode cX5_init 5 = .ok (.bipush 6, 2) := by decide +kernel
theorem dX5_init_7 : decode cX5_init 7 = .ok (.bipush 6, 2) := by decide +kernel
theorem dX5_init_9 : decode cX5_init 9 = .ok (.multianewarray 9 2, 4) := by decide +kernel
theorem dX5_init_13 : decode cX5_init 13 = .ok (.putfield 11, 3) := by decide +kernel
theorem dX5_init_16 : decode cX5_init 16 = .ok (.aload_n 0, 1) := by decide +kernel
theorem dX5_init_17 : decode cX5_init 17 = .ok (.bipush 16, 2) := by decide +kernel
theorem dX5_init_19 : decode cX5_init 19 = .ok (.bipush 6, 2) := by decide +kernel
theorem dX5_init_21 : decode cX5_init 21 = .ok (.multianewarray 9 2, 4) := by decide +kernel
theorem dX5_init_25 : decode cX5_init 25 = .ok (.putfield 16, 3) := by decide +kernel
theorem dX5_init_28 : decode cX5_init 28 = .ok (.aload_n 0, 1) := by decide +kernel
theorem dX5_init_29 : decode cX5_init 29 = .ok (.bipush 64, 2) := by decide +kernel
theorem dX5_init_31 : decode cX5_init 31 = .ok (.newarray .int, 2) := by decide +kernel
theorem dX5_init_33 : decode cX5_init 33 = .ok (.putfield 19, 3) := by decide +kernel
theorem dX5_init_36 : decode cX5_init 36 = .ok (.return_, 1) := by decide +kernel
theorem dX5_start_0 : decode cX5_start 0 = .ok (.aload_n 0, 1) := by decide +kernel
theorem dX5_start_1 : decode cX5_start 1 = .ok (.iconst 0, 1) := by decide +kernel
theorem dX5_start_2 : decode cX5_start 2 = .ok (.putfield 23, 3) := by decide +kernel
theorem dX5_start_5 : decode cX5_start 5 = .ok (.aload_n 0, 1) := by decide +kernel
theorem dX5_start_6 : decode cX5_start 6 = .ok (.iconst 0, 1) := by decide +kernel
theorem dX5_start_7 : decode cX5_start 7 = .ok (.putfield 27, 3) := by decide +kernel
theorem dX5_start_10 : decode cX5_start 10 = .ok (.aload_n 0, 1) := by decide +kernel
theorem dX5_start_11 : decode cX5_start 11 = .ok (.iconst 0, 1) := by decide +kernel
theorem dX5_start_12 : decode cX5_start 12 = .ok (.putfield 30, 3) := by decide +kernel
theorem dX5_start_15 : decode cX5_start 15 = .ok (.aload_n 0, 1) := by decide +kernel
theorem dX5_start_16 : decode cX5_start 16 = .ok (.iconst 0, 1) := by decide +kernel
theorem dX5_start_17 : decode cX5_start 17 = .ok (.putfield 33, 3) := by decide +kernel
theorem dX5_start_20 : decode cX5_start 20 = .ok (.aload_n 0, 1) := by decide +kernel
theorem dX5_start_21 : decode cX5_start 21 = .ok (.iconst 0, 1) := by decide +kernel
theorem dX5_start_22 : decode cX5_start 22 = .ok (.putfield 36, 3) := by decide +kernel
theorem dX5_start_25 : decode cX5_start 25 = .ok (.iconst 0, 1) := by decide +kernel
theorem dX5_start_26 : decode cX5_start 26 = .ok (.istore_n 1, 1) := by decide +kernel
theorem dX5_start_27 : decode cX5_start 27 = .ok (.iload_n 1, 1) := by decide +kernel
theorem dX5_start_28 : decode cX5_start 28 = .ok (.bipush 6, 2) := by decide +kernel
theorem dX5_start_30 : decode cX5_start 30 = .ok (.if_icmp .ge 29, 3) := by decide +kernel
theorem dX5_start_33 : decode cX5_start 33 = .ok (.aload_n 0, 1) := by decide +kernel
theorem dX5_start_34 : decode cX5_start 34 = .ok (.getfield 11, 3) := by decide +kernel
theorem dX5_start_37 : decode cX5_start 37 = .ok (.iload_n 1, 1) := by decide +kernel
theorem dX5_start_38 : decode cX5_start 38 = .ok (.aaload, 1) := by decide +kernel
theorem dX5_start_39 : decode cX5_start 39 = .ok (.iconst 0, 1) := by decide +kernel
theorem dX5_start_40 : decode cX5_start 40 = .ok (.invokestatic 39, 3) := by decide +kernel
theorem dX5_start_43 : decode cX5_start 43 = .ok (.aload_n 0, 1) := by decide +kernel
theorem dX5_start_44 : decode cX5_start 44 = .ok (.getfield 11, 3) := by decide +kernel
theorem dX5_start_47 : decode cX5_start 47 = .ok (.iload_n 1, 1) := by decide +kernel
theorem dX5_start_48 : decode cX5_start 48 = .ok (.aaload, 1) := by decide +kernel
theorem dX5_start_49 : decode cX5_start 49 = .ok (.iconst 4, 1) := by decide +kernel
theorem dX5_start_50 : decode cX5_start 50 = .ok (.bipush (-2), 2) := by decide +kernel
theorem dX5_start_52 : decode cX5_start 52 = .ok (.iastore, 1) := by decide +kernel
theorem dX5_start_53 : decode cX5_start 53 = .ok (.iinc 1 1, 3) := by decide +kernel
theorem dX5_start_56 : decode cX5_start 56 = .ok (.goto (-29), 3) := by decide +kernel
theorem dX5_start_59 : decode cX5_start 59 = .ok (.iconst 0, 1) := by decide +kernel
theorem dX5_start_60 : decode cX5_start 60 = .ok (.istore_n 1, 1) := by decide +kernel
theorem dX5_start_61 : decode cX5_start 61 = .ok (.iload_n 1, 1) := by decide +kernel
theorem dX5_start_62 : decode cX5_start 62 = .ok (.bipush 16, 2) := by decide +kernel
theorem dX5_start_64 : decode cX5_start 64 = .ok (.if_icmp .ge 19, 3) := by decide +kernel
theorem dX5_start_67 : decode cX5_start 67 = .ok (.aload_n 0, 1) := by decide +kernel
theorem dX5_start_68 : decode cX5_start 68 = .ok (.getfield 16, 3) := by decide +kernel
theorem dX5_start_71 : decode cX5_start 71 = .ok (.iload_n 1, 1) := by decide +kernel
theorem dX5_start_72 : decode cX5_start 72 = .ok (.aaload, 1) := by decide +kernel
theorem dX5_start_73 : decode cX5_start 73 = .ok (.iconst 0, 1) := by decide +kernel
theorem dX5_start_74 : decode cX5_start 74 = .ok (.invokestatic 39, 3) := by decide +kernel
theorem dX5_start_77 : decode cX5_start 77 = .ok (.iinc 1 1, 3) := by decide +kernel
theorem dX5_start_80 : decode cX5_start 80 = .ok (.goto (-19), 3) := by decide +kernel
theorem dX5_start_83 : decode cX5_start 83 = .ok (.aload_n 0, 1) := by decide +kernel
theorem dX5_start_84 : decode cX5_start 84 = .ok (.getfield 19, 3) := by decide +kernel
theorem dX5_start_87 : decode cX5_start 87 = .ok (.bipush (-2), 2) := by decide +kernel
theorem dX5_start_89 : decode cX5_start 89 = .ok (.invokestatic 39, 3) := by decide +kernel
theorem dX5_start_92 : decode cX5_start 92 = .ok (.return_, 1) := by decide +kernel
theorem dX5_copy_0 : decode cX5_copy 0 = .ok (.aload_n 0, 1) := by decide +kernel
theorem dX5_copy_1 : decode cX5_copy 1 = .ok (.aload_n 1, 1) := by decide +kernel
theorem dX5_copy_2 : decode cX5_copy 2 = .ok (.getfield 23, 3) := by decide +kernel
theorem dX5_copy_5 : decode cX5_copy 5 = .ok (.putfield 23, 3) := by decide +kernel
theorem dX5_copy_8 : decode cX5_copy 8 = .ok (.aload_n 0, 1) := by decide +kernel
theorem dX5_copy_9 : decode cX5_copy 9 = .ok (.aload_n 1, 1) := by decide +kernel
theorem dX5_copy_10 : decode cX5_copy 10 = .ok (.getfield 27, 3) := by decide +kernel
theorem dX5_copy_13 : decode cX5_copy 13 = .ok (.putfield 27, 3) := by decide +kernel
theorem dX5_copy_16 : decode cX5_copy 16 = .ok (.aload_n 0, 1) := by decide +kernel
theorem dX5_copy_17 : decode cX5_copy 17 = .ok (.aload_n 1, 1) := by decide +kernel
theorem dX5_copy_18 : decode cX5_copy 18 = .ok (.getfield 30, 3) := by decide +kernel
theorem dX5_copy_21 : decode cX5_copy 21 = .ok (.putfield 30, 3) := by decide +kernel
theorem dX5_copy_24 : decode cX5_copy 24 = .ok (.aload_n 0, 1) := by decide +kernel
theorem dX5_copy_25 : decode cX5_copy 25 = .ok (.aload_n 1, 1) := by decide +kernel
theorem dX5_copy_26 : decode cX5_copy 26 = .ok (.getfield 33, 3) := by decide +kernel
theorem dX5_copy_29 : decode cX5_copy 29 = .ok (.putfield 33, 3) := by decide +kernel
theorem dX5_copy_32 : decode cX5_copy 32 = .ok (.aload_n 0, 1) := by decide +kernel
theorem dX5_copy_33 : decode cX5_copy 33 = .ok (.aload_n 1, 1) := by decide +kernel
theorem dX5_copy_34 : decode cX5_copy 34 = .ok (.getfield 36, 3) := by decide +kernel
theorem dX5_copy_37 : decode cX5_copy 37 = .ok (.putfield 36, 3) := by decide +kernel
theorem dX5_copy_40 : decode cX5_copy 40 = .ok (.iconst 0, 1) := by decide +kernel
theorem dX5_copy_41 : decode cX5_copy 41 = .ok (.istore_n 2, 1) := by decide +kernel
theorem dX5_copy_42 : decode cX5_copy 42 = .ok (.iload_n 2, 1) := by decide +kernel
theorem dX5_copy_43 : decode cX5_copy 43 = .ok (.bipush 6, 2) := by decide +kernel
theorem dX5_copy_45 : decode cX5_copy 45 = .ok (.if_icmp .ge 28, 3) := by decide +kernel
theorem dX5_copy_48 : decode cX5_copy 48 = .ok (.aload_n 1, 1) := by decide +kernel
theorem dX5_copy_49 : decode cX5_copy 49 = .ok (.getfield 11, 3) := by decide +kernel
theorem dX5_copy_52 : decode cX5_copy 52 = .ok (.iload_n 2, 1) := by decide +kernel
theorem dX5_copy_53 : decode cX5_copy 53 = .ok (.aaload, 1) := by decide +kernel
theorem dX5_copy_54 : decode cX5_copy 54 = .ok (.iconst 0, 1) := by decide +kernel
theorem dX5_copy_55 : decode cX5_copy 55 = .ok (.aload_n 0, 1) := by decide +kernel
theorem dX5_copy_56 : decode cX5_copy 56 = .ok (.getfield 11, 3) := by decide +kernel
theorem dX5_copy_59 : decode cX5_copy 59 = .ok (.iload_n 2, 1) := by decide +kernel
theorem dX5_copy_60 : decode cX5_copy 60 = .ok (.aaload, 1) := by decide +kernel
theorem dX5_copy_61 : decode cX5_copy 61 = .ok (.iconst 0, 1) := by decide +kernel
theorem dX5_copy_62 : decode cX5_copy 62 = .ok (.bipush 6, 2) := by decide +kernel
theorem dX5_copy_64 : decode cX5_copy 64 = .ok (.invokestatic 45, 3) := by decide +kernel
theorem dX5_copy_67 : decode cX5_copy 67 = .ok (.iinc 2 1, 3) := by decide +kernel
theorem dX5_copy_70 : decode cX5_copy 70 = .ok (.goto (-28), 3) := by decide +kernel
theorem dX5_copy_73 : decode cX5_copy 73 = .ok (.iconst 0, 1) := by decide +kernel
theorem dX5_copy_74 : decode cX5_copy 74 = .ok (.istore_n 2, 1) := by decide +kernel
theorem dX5_copy_75 : decode cX5_copy 75 = .ok (.iload_n 2, 1) := by decide +kernel
theorem dX5_copy_76 : decode cX5_copy 76 = .ok (.bipush 16, 2) := by decide +kernel
theorem dX5_copy_78 : decode cX5_copy 78 = .ok (.if_icmp .ge 28, 3) := by decide +kernel
theorem dX5_copy_81 : decode cX5_copy 81 = .ok (.aload_n 1, 1) := by decide +kernel
theorem dX5_copy_82 : decode cX5_copy 82 = .ok (.getfield 16, 3) := by decide +kernel
theorem dX5_copy_85 : decode cX5_copy 85 = .ok (.iload_n 2, 1) := by decide +kernel
theorem dX5_copy_86 : decode cX5_copy 86 = .ok (.aaload, 1) := by decide +kernel
theorem dX5_copy_87 : decode cX5_copy 87 = .ok (.iconst 0, 1) := by decide +kernel
theorem dX5_copy_88 : decode cX5_copy 88 = .ok (.aload_n 0, 1) := by decide +kernel
theorem dX5_copy_89 : decode cX5_copy 89 = .ok (.getfield 16, 3) := by decide +kernel
theorem dX5_copy_92 : decode cX5_copy 92 = .ok (.iload_n 2, 1) := by decide +kernel
theorem dX5_copy_93 : decode cX5_copy 93 = .ok (.aaload, 1) := by decide +kernel
theorem dX5_copy_94 : decode cX5_copy 94 = .ok (.iconst 0, 1) := by decide +kernel
theorem dX5_copy_95 : decode cX5_copy 95 = .ok (.bipush 6, 2) := by decide +kernel
theorem dX5_copy_97 : decode cX5_copy 97 = .ok (.invokestatic 45, 3) := by decide +kernel
theorem dX5_copy_100 : decode cX5_copy 100 = .ok (.iinc 2 1, 3) := by decide +kernel
theorem dX5_copy_103 : decode cX5_copy 103 = .ok (.goto (-28), 3) := by decide +kernel
theorem dX5_copy_106 : decode cX5_copy 106 = .ok (.aload_n 1, 1) := by decide +kernel
theorem dX5_copy_107 : decode cX5_copy 107 = .ok (.getfield 19, 3) := by decide +kernel
theorem dX5_copy_110 : decode cX5_copy 110 = .ok (.iconst 0, 1) := by decide +kernel
theorem dX5_copy_111 : decode cX5_copy 111 = .ok (.aload_n 0, 1) := by decide +kernel
theorem dX5_copy_112 : decode cX5_copy 112 = .ok (.getfield 19, 3) := by decide +kernel
theorem dX5_copy_115 : decode cX5_copy 115 = .ok (.iconst 0, 1) := by decide +kernel
theorem dX5_copy_116 : decode cX5_copy 116 = .ok (.bipush 64, 2) := by decide +kernel
theorem dX5_copy_118 : decode cX5_copy 118 = .ok (.invokestatic 45, 3) := by decide +kernel
theorem dX5_copy_121 : decode cX5_copy 121 = .ok (.return_, 1) := by decide +kernel
theorem dX5_count_0 : decode cX5_count 0 = .ok (.iload_n 1, 1) := by decide +kernel
theorem dX5_count_1 : decode cX5_count 1 = .ok (.iload_n 2, 1) := by decide +kernel
theorem dX5_count_2 : decode cX5_count 2 = .ok (.invokestatic 51, 3) := by decide +kernel
theorem dX5_count_5 : decode cX5_count 5 = .ok (.ifCond .eq 15, 3) := by decide +kernel
theorem dX5_count_8 : decode cX5_count 8 = .ok (.aload_n 0, 1) := by decide +kernel
theorem dX5_count_9 : decode cX5_count 9 = .ok (.getfield 11, 3) := by decide +kernel
theorem dX5_count_12 : decode cX5_count 12 = .ok (.iload_n 1, 1) := by decide +kernel
theorem dX5_count_13 : decode cX5_count 13 = .ok (.aaload, 1) := by decide +kernel
theorem dX5_count_14 : decode cX5_count 14 = .ok (.iload_n 2, 1) := by decide +kernel
theorem dX5_count_15 : decode cX5_count 15 = .ok (.dup2, 1) := by decide +kernel
theorem dX5_count_16 : decode cX5_count 16 = .ok (.iaload, 1) := by decide +kernel
theorem dX5_count_17 : decode cX5_count 17 = .ok (.iconst 1, 1) := by decide +kernel
theorem dX5_count_18 : decode cX5_count 18 = .ok (.iadd, 1) := by decide +kernel
theorem dX5_count_19 : decode cX5_count 19 = .ok (.iastore, 1) := by decide +kernel
theorem dX5_count_20 : decode cX5_count 20 = .ok (.return_, 1) := by decide +kernel
theorem dX5_account_0 : decode cX5_account 0 = .ok (.iload_n 1, 1) := by decide +kernel
theorem dX5_account_1 : decode cX5_account 1 = .ok (.iload_n 2, 1) := by decide +kernel
theorem dX5_account_2 : decode cX5_account 2 = .ok (.invokestatic 51, 3) := by decide +kernel
theorem dX5_account_5 : decode cX5_account 5 = .ok (.ifCond .eq 14, 3) := by decide +kernel
theorem dX5_account_8 : decode cX5_account 8 = .ok (.aload_n 0, 1) := by decide +kernel
theorem dX5_account_9 : decode cX5_account 9 = .ok (.getfield 11, 3) := by decide +kernel
theorem dX5_account_12 : decode cX5_account 12 = .ok (.iload_n 1, 1) := by decide +kernel
theorem dX5_account_13 : decode cX5_account 13 = .ok (.aaload, 1) := by decide +kernel
theorem dX5_account_14 : decode cX5_account 14 = .ok (.iload_n 2, 1) := by decide +kernel
theorem dX5_account_15 : decode cX5_account 15 = .ok (.iaload, 1) := by decide +kernel
theorem dX5_account_16 : decode cX5_account 16 = .ok (.goto 4, 3) := by decide +kernel
theorem dX5_account_19 : decode cX5_account 19 = .ok (.iconst (-1), 1) := by decide +kernel
theorem dX5_account_20 : decode cX5_account 20 = .ok (.ireturn, 1) := by decide +kernel
theorem dX5_isAccount_0 : decode cX5_isAccount 0 = .ok (.iload_n 0, 1) := by decide +kernel
theorem dX5_isAccount_1 : decode cX5_isAccount 1 = .ok (.bipush 6, 2) := by decide +kernel
theorem dX5_isAccount_3 : decode cX5_isAccount 3 = .ok (.invokestatic 55, 3) := by decide +kernel
theorem dX5_isAccount_6 : decode cX5_isAccount 6 = .ok (.ifCond .eq 16, 3) := by decide +kernel
theorem dX5_isAccount_9 : decode cX5_isAccount 9 = .ok (.iload_n 1, 1) := by decide +kernel
theorem dX5_isAccount_10 : decode cX5_isAccount 10 = .ok (.bipush 6, 2) := by decide +kernel
theorem dX5_isAccount_12 : decode cX5_isAccount 12 = .ok (.invokestatic 55, 3) := by decide +kernel
theorem dX5_isAccount_15 : decode cX5_isAccount 15 = .ok (.ifCond .eq 7, 3) := by decide +kernel
theorem dX5_isAccount_18 : decode cX5_isAccount 18 = .ok (.iconst 1, 1) := by decide +kernel
theorem dX5_isAccount_19 : decode cX5_isAccount 19 = .ok (.goto 4, 3) := by decide +kernel
theorem dX5_isAccount_22 : decode cX5_isAccount 22 = .ok (.iconst 0, 1) := by decide +kernel
theorem dX5_isAccount_23 : decode cX5_isAccount 23 = .ok (.ireturn, 1) := by decide +kernel
theorem dX5_putOff_0 : decode cX5_putOff 0 = .ok (.aload_n 0, 1) := by decide +kernel
theorem dX5_putOff_1 : decode cX5_putOff 1 = .ok (.dup, 1) := by decide +kernel
theorem dX5_putOff_2 : decode cX5_putOff 2 = .ok (.getfield 36, 3) := by decide +kernel
theorem dX5_putOff_5 : decode cX5_putOff 5 = .ok (.iconst 1, 1) := by decide +kernel
theorem dX5_putOff_6 : decode cX5_putOff 6 = .ok (.iadd, 1) := by decide +kernel
theorem dX5_putOff_7 : decode cX5_putOff 7 = .ok (.putfield 36, 3) := by decide +kernel
theorem dX5_putOff_10 : decode cX5_putOff 10 = .ok (.aload_n 0, 1) := by decide +kernel
theorem dX5_putOff_11 : decode cX5_putOff 11 = .ok (.iload_n 1, 1) := by decide +kernel
theorem dX5_putOff_12 : decode cX5_putOff 12 = .ok (.iconst 3, 1) := by decide +kernel
theorem dX5_putOff_13 : decode cX5_putOff 13 = .ok (.invokevirtual 58, 3) := by decide +kernel
theorem dX5_putOff_16 : decode cX5_putOff 16 = .ok (.return_, 1) := by decide +kernel
theorem dX5_enthrone_0 : decode cX5_enthrone 0 = .ok (.iload_n 1, 1) := by decide +kernel
theorem dX5_enthrone_1 : decode cX5_enthrone 1 = .ok (.bipush 6, 2) := by decide +kernel
theorem dX5_enthrone_3 : decode cX5_enthrone 3 = .ok (.invokestatic 55, 3) := by decide +kernel
theorem dX5_enthrone_6 : decode cX5_enthrone 6 = .ok (.ifCond .eq 29, 3) := by decide +kernel
theorem dX5_enthrone_9 : decode cX5_enthrone 9 = .ok (.aload_n 0, 1) := by decide +kernel
theorem dX5_enthrone_10 : decode cX5_enthrone 10 = .ok (.iload_n 1, 1) := by decide +kernel
theorem dX5_enthrone_11 : decode cX5_enthrone 11 = .ok (.iconst 0, 1) := by decide +kernel
theorem dX5_enthrone_12 : decode cX5_enthrone 12 = .ok (.invokevirtual 58, 3) := by decide +kernel
theorem dX5_enthrone_15 : decode cX5_enthrone 15 = .ok (.aload_n 0, 1) := by decide +kernel
theorem dX5_enthrone_16 : decode cX5_enthrone 16 = .ok (.getfield 11, 3) := by decide +kernel
theorem dX5_enthrone_19 : decode cX5_enthrone 19 = .ok (.iload_n 1, 1) := by decide +kernel
theorem dX5_enthrone_20 : decode cX5_enthrone 20 = .ok (.aaload, 1) := by decide +kernel
theorem dX5_enthrone_21 : decode cX5_enthrone 21 = .ok (.iconst 4, 1) := by decide +kernel
theorem dX5_enthrone_22 : decode cX5_enthrone 22 = .ok (.aload_n 0, 1) := by decide +kernel
theorem dX5_enthrone_23 : decode cX5_enthrone 23 = .ok (.getfield 11, 3) := by decide +kernel
theorem dX5_enthrone_26 : decode cX5_enthrone 26 = .ok (.iload_n 1, 1) := by decide +kernel
theorem dX5_enthrone_27 : decode cX5_enthrone 27 = .ok (.aaload, 1) := by decide +kernel
theorem dX5_enthrone_28 : decode cX5_enthrone 28 = .ok (.iconst 4, 1) := by decide +kernel
theorem dX5_enthrone_29 : decode cX5_enthrone 29 = .ok (.iaload, 1) := by decide +kernel
theorem dX5_enthrone_30 : decode cX5_enthrone 30 = .ok (.iload_n 2, 1) := by decide +kernel
theorem dX5_enthrone_31 : decode cX5_enthrone 31 = .ok (.invokestatic 62, 3) := by decide +kernel
theorem dX5_enthrone_34 : decode cX5_enthrone 34 = .ok (.iastore, 1) := by decide +kernel
theorem dX5_enthrone_35 : decode cX5_enthrone 35 = .ok (.return_, 1) := by decide +kernel
theorem dX5_enter_0 : decode cX5_enter 0 = .ok (.aload_n 0, 1) := by decide +kernel
theorem dX5_enter_1 : decode cX5_enter 1 = .ok (.getfield 16, 3) := by decide +kernel
theorem dX5_enter_4 : decode cX5_enter 4 = .ok (.aload_n 0, 1) := by decide +kernel
theorem dX5_enter_5 : decode cX5_enter 5 = .ok (.getfield 27, 3) := by decide +kernel
theorem dX5_enter_8 : decode cX5_enter 8 = .ok (.bipush 16, 2) := by decide +kernel
theorem dX5_enter_10 : decode cX5_enter 10 = .ok (.invokestatic 68, 3) := by decide +kernel
theorem dX5_enter_13 : decode cX5_enter 13 = .ok (.aaload, 1) := by decide +kernel
theorem dX5_enter_14 : decode cX5_enter 14 = .ok (.astore 4, 2) := by decide +kernel
theorem dX5_enter_16 : decode cX5_enter 16 = .ok (.aload 4, 2) := by decide +kernel
theorem dX5_enter_18 : decode cX5_enter 18 = .ok (.iconst 0, 1) := by decide +kernel
theorem dX5_enter_19 : decode cX5_enter 19 = .ok (.iload_n 1, 1) := by decide +kernel
theorem dX5_enter_20 : decode cX5_enter 20 = .ok (.iastore, 1) := by decide +kernel
theorem dX5_enter_21 : decode cX5_enter 21 = .ok (.aload 4, 2) := by decide +kernel
theorem dX5_enter_23 : decode cX5_enter 23 = .ok (.iconst 1, 1) := by decide +kernel
theorem dX5_enter_24 : decode cX5_enter 24 = .ok (.iload_n 2, 1) := by decide +kernel
theorem dX5_enter_25 : decode cX5_enter 25 = .ok (.iastore, 1) := by decide +kernel
theorem dX5_enter_26 : decode cX5_enter 26 = .ok (.aload 4, 2) := by decide +kernel
theorem dX5_enter_28 : decode cX5_enter 28 = .ok (.iconst 2, 1) := by decide +kernel
theorem dX5_enter_29 : decode cX5_enter 29 = .ok (.aload_n 3, 1) := by decide +kernel
theorem dX5_enter_30 : decode cX5_enter 30 = .ok (.getfield 71, 3) := by decide +kernel
theorem dX5_enter_33 : decode cX5_enter 33 = .ok (.iastore, 1) := by decide +kernel
theorem dX5_enter_34 : decode cX5_enter 34 = .ok (.aload 4, 2) := by decide +kernel
theorem dX5_enter_36 : decode cX5_enter 36 = .ok (.iconst 3, 1) := by decide +kernel
theorem dX5_enter_37 : decode cX5_enter 37 = .ok (.aload_n 3, 1) := by decide +kernel
theorem dX5_enter_38 : decode cX5_enter 38 = .ok (.getfield 76, 3) := by decide +kernel
theorem dX5_enter_41 : decode cX5_enter 41 = .ok (.iastore, 1) := by decide +kernel
theorem dX5_enter_42 : decode cX5_enter 42 = .ok (.aload 4, 2) := by decide +kernel
theorem dX5_enter_44 : decode cX5_enter 44 = .ok (.iconst 4, 1) := by decide +kernel
theorem dX5_enter_45 : decode cX5_enter 45 = .ok (.aload_n 3, 1) := by decide +kernel
theorem dX5_enter_46 : decode cX5_enter 46 = .ok (.getfield 79, 3) := by decide +kernel
theorem dX5_enter_49 : decode cX5_enter 49 = .ok (.iastore, 1) := by decide +kernel
theorem dX5_enter_50 : decode cX5_enter 50 = .ok (.aload 4, 2) := by decide +kernel
theorem dX5_enter_52 : decode cX5_enter 52 = .ok (.iconst 5, 1) := by decide +kernel
theorem dX5_enter_53 : decode cX5_enter 53 = .ok (.aload_n 3, 1) := by decide +kernel
theorem dX5_enter_54 : decode cX5_enter 54 = .ok (.getfield 82, 3) := by decide +kernel
theorem dX5_enter_57 : decode cX5_enter 57 = .ok (.iastore, 1) := by decide +kernel
theorem dX5_enter_58 : decode cX5_enter 58 = .ok (.aload_n 0, 1) := by decide +kernel
theorem dX5_enter_59 : decode cX5_enter 59 = .ok (.dup, 1) := by decide +kernel
theorem dX5_enter_60 : decode cX5_enter 60 = .ok (.getfield 27, 3) := by decide +kernel
theorem dX5_enter_63 : decode cX5_enter 63 = .ok (.iconst 1, 1) := by decide +kernel
theorem dX5_enter_64 : decode cX5_enter 64 = .ok (.iadd, 1) := by decide +kernel
theorem dX5_enter_65 : decode cX5_enter 65 = .ok (.putfield 27, 3) := by decide +kernel
theorem dX5_enter_68 : decode cX5_enter 68 = .ok (.aload_n 0, 1) := by decide +kernel
theorem dX5_enter_69 : decode cX5_enter 69 = .ok (.dup, 1) := by decide +kernel
theorem dX5_enter_70 : decode cX5_enter 70 = .ok (.getfield 33, 3) := by decide +kernel
theorem dX5_enter_73 : decode cX5_enter 73 = .ok (.aload_n 3, 1) := by decide +kernel
theorem dX5_enter_74 : decode cX5_enter 74 = .ok (.getfield 82, 3) := by decide +kernel
theorem dX5_enter_77 : decode cX5_enter 77 = .ok (.iadd, 1) := by decide +kernel
theorem dX5_enter_78 : decode cX5_enter 78 = .ok (.putfield 33, 3) := by decide +kernel
theorem dX5_enter_81 : decode cX5_enter 81 = .ok (.aload_n 3, 1) := by decide +kernel
theorem dX5_enter_82 : decode cX5_enter 82 = .ok (.getfield 79, 3) := by decide +kernel
theorem dX5_enter_85 : decode cX5_enter 85 = .ok (.bipush (-2), 2) := by decide +kernel
theorem dX5_enter_87 : decode cX5_enter 87 = .ok (.if_icmp .ne 13, 3) := by decide +kernel
theorem dX5_enter_90 : decode cX5_enter 90 = .ok (.aload_n 0, 1) := by decide +kernel
theorem dX5_enter_91 : decode cX5_enter 91 = .ok (.dup, 1) := by decide +kernel
theorem dX5_enter_92 : decode cX5_enter 92 = .ok (.getfield 30, 3) := by decide +kernel
theorem dX5_enter_95 : decode cX5_enter 95 = .ok (.iconst 1, 1) := by decide +kernel
theorem dX5_enter_96 : decode cX5_enter 96 = .ok (.iadd, 1) := by decide +kernel
theorem dX5_enter_97 : decode cX5_enter 97 = .ok (.putfield 30, 3) := by decide +kernel
theorem dX5_enter_100 : decode cX5_enter 100 = .ok (.return_, 1) := by decide +kernel
theorem dX5_logged_0 : decode cX5_logged 0 = .ok (.aload_n 0, 1) := by decide +kernel
theorem dX5_logged_1 : decode cX5_logged 1 = .ok (.getfield 27, 3) := by decide +kernel
theorem dX5_logged_4 : decode cX5_logged 4 = .ok (.bipush 16, 2) := by decide +kernel
theorem dX5_logged_6 : decode cX5_logged 6 = .ok (.invokestatic 83, 3) := by decide +kernel
theorem dX5_logged_9 : decode cX5_logged 9 = .ok (.ireturn, 1) := by decide +kernel
theorem dX5_entry_0 : decode cX5_entry 0 = .ok (.iload_n 1, 1) := by decide +kernel
theorem dX5_entry_1 : decode cX5_entry 1 = .ok (.aload_n 0, 1) := by decide +kernel
theorem dX5_entry_2 : decode cX5_entry 2 = .ok (.invokevirtual 86, 3) := by decide +kernel
theorem dX5_entry_5 : decode cX5_entry 5 = .ok (.invokestatic 55, 3) := by decide +kernel
theorem dX5_entry_8 : decode cX5_entry 8 = .ok (.ifCond .eq 12, 3) := by decide +kernel
theorem dX5_entry_11 : decode cX5_entry 11 = .ok (.iload_n 2, 1) := by decide +kernel
theorem dX5_entry_12 : decode cX5_entry 12 = .ok (.bipush 6, 2) := by decide +kernel
theorem dX5_entry_14 : decode cX5_entry 14 = .ok (.invokestatic 55, 3) := by decide +kernel
theorem dX5_entry_17 : decode cX5_entry 17 = .ok (.ifCond .ne 5, 3) := by decide +kernel
theorem dX5_entry_20 : decode cX5_entry 20 = .ok (.iconst (-1), 1) := by decide +kernel
theorem dX5_entry_21 : decode cX5_entry 21 = .ok (.ireturn, 1) := by decide +kernel
theorem dX5_entry_22 : decode cX5_entry 22 = .ok (.aload_n 0, 1) := by decide +kernel
theorem dX5_entry_23 : decode cX5_entry 23 = .ok (.getfield 16, 3) := by decide +kernel
theorem dX5_entry_26 : decode cX5_entry 26 = .ok (.aload_n 0, 1) := by decide +kernel
theorem dX5_entry_27 : decode cX5_entry 27 = .ok (.getfield 27, 3) := by decide +kernel
theorem dX5_entry_30 : decode cX5_entry 30 = .ok (.iconst 1, 1) := by decide +kernel
theorem dX5_entry_31 : decode cX5_entry 31 = .ok (.isub, 1) := by decide +kernel
theorem dX5_entry_32 : decode cX5_entry 32 = .ok (.iload_n 1, 1) := by decide +kernel
theorem dX5_entry_33 : decode cX5_entry 33 = .ok (.isub, 1) := by decide +kernel
theorem dX5_entry_34 : decode cX5_entry 34 = .ok (.bipush 16, 2) := by decide +kernel
theorem dX5_entry_36 : decode cX5_entry 36 = .ok (.invokestatic 68, 3) := by decide +kernel
theorem dX5_entry_39 : decode cX5_entry 39 = .ok (.aaload, 1) := by decide +kernel
theorem dX5_entry_40 : decode cX5_entry 40 = .ok (.iload_n 2, 1) := by decide +kernel
theorem dX5_entry_41 : decode cX5_entry 41 = .ok (.iaload, 1) := by decide +kernel
theorem dX5_entry_42 : decode cX5_entry 42 = .ok (.ireturn, 1) := by decide +kernel
theorem dX5_endTick_0 : decode cX5_endTick 0 = .ok (.aload_n 0, 1) := by decide +kernel
theorem dX5_endTick_1 : decode cX5_endTick 1 = .ok (.getfield 19, 3) := by decide +kernel
theorem dX5_endTick_4 : decode cX5_endTick 4 = .ok (.iload_n 1, 1) := by decide +kernel
theorem dX5_endTick_5 : decode cX5_endTick 5 = .ok (.bipush 64, 2) := by decide +kernel
theorem dX5_endTick_7 : decode cX5_endTick 7 = .ok (.invokestatic 68, 3) := by decide +kernel
theorem dX5_endTick_10 : decode cX5_endTick 10 = .ok (.iload_n 2, 1) := by decide +kernel
theorem dX5_endTick_11 : decode cX5_endTick 11 = .ok (.iastore, 1) := by decide +kernel
theorem dX5_endTick_12 : decode cX5_endTick 12 = .ok (.aload_n 0, 1) := by decide +kernel
theorem dX5_endTick_13 : decode cX5_endTick 13 = .ok (.iload_n 2, 1) := by decide +kernel
theorem dX5_endTick_14 : decode cX5_endTick 14 = .ok (.iconst 1, 1) := by decide +kernel
theorem dX5_endTick_15 : decode cX5_endTick 15 = .ok (.invokevirtual 58, 3) := by decide +kernel
theorem dX5_endTick_18 : decode cX5_endTick 18 = .ok (.return_, 1) := by decide +kernel
theorem dX5_masterAt_0 : decode cX5_masterAt 0 = .ok (.iload_n 1, 1) := by decide +kernel
theorem dX5_masterAt_1 : decode cX5_masterAt 1 = .ok (.iconst 1, 1) := by decide +kernel
theorem dX5_masterAt_2 : decode cX5_masterAt 2 = .ok (.if_icmp .lt 17, 3) := by decide +kernel
theorem dX5_masterAt_5 : decode cX5_masterAt 5 = .ok (.aload_n 0, 1) := by decide +kernel
theorem dX5_masterAt_6 : decode cX5_masterAt 6 = .ok (.getfield 19, 3) := by decide +kernel
theorem dX5_masterAt_9 : decode cX5_masterAt 9 = .ok (.iload_n 1, 1) := by decide +kernel
theorem dX5_masterAt_10 : decode cX5_masterAt 10 = .ok (.bipush 64, 2) := by decide +kernel
theorem dX5_masterAt_12 : decode cX5_masterAt 12 = .ok (.invokestatic 68, 3) := by decide +kernel
theorem dX5_masterAt_15 : decode cX5_masterAt 15 = .ok (.iaload, 1) := by decide +kernel
theorem dX5_masterAt_16 : decode cX5_masterAt 16 = .ok (.goto 5, 3) := by decide +kernel
theorem dX5_masterAt_19 : decode cX5_masterAt 19 = .ok (.bipush (-2), 2) := by decide +kernel
theorem dX5_masterAt_21 : decode cX5_masterAt 21 = .ok (.ireturn, 1) := by decide +kernel
theorem dX5_idleTicks_0 : decode cX5_idleTicks 0 = .ok (.iconst 0, 1) := by decide +kernel
theorem dX5_idleTicks_1 : decode cX5_idleTicks 1 = .ok (.istore_n 2, 1) := by decide +kernel
theorem dX5_idleTicks_2 : decode cX5_idleTicks 2 = .ok (.iconst 0, 1) := by decide +kernel
theorem dX5_idleTicks_3 : decode cX5_idleTicks 3 = .ok (.istore_n 3, 1) := by decide +kernel
theorem dX5_idleTicks_4 : decode cX5_idleTicks 4 = .ok (.iload_n 3, 1) := by decide +kernel
theorem dX5_idleTicks_5 : decode cX5_idleTicks 5 = .ok (.bipush 64, 2) := by decide +kernel
theorem dX5_idleTicks_7 : decode cX5_idleTicks 7 = .ok (.if_icmp .ge 29, 3) := by decide +kernel
theorem dX5_idleTicks_10 : decode cX5_idleTicks 10 = .ok (.iload_n 3, 1) := by decide +kernel
theorem dX5_idleTicks_11 : decode cX5_idleTicks 11 = .ok (.iload_n 1, 1) := by decide +kernel
theorem dX5_idleTicks_12 : decode cX5_idleTicks 12 = .ok (.if_icmp .ge 24, 3) := by decide +kernel
theorem dX5_idleTicks_15 : decode cX5_idleTicks 15 = .ok (.aload_n 0, 1) := by decide +kernel
theorem dX5_idleTicks_16 : decode cX5_idleTicks 16 = .ok (.iload_n 1, 1) := by decide +kernel
theorem dX5_idleTicks_17 : decode cX5_idleTicks 17 = .ok (.iload_n 3, 1) := by decide +kernel
theorem dX5_idleTicks_18 : decode cX5_idleTicks 18 = .ok (.isub, 1) := by decide +kernel
theorem dX5_idleTicks_19 : decode cX5_idleTicks 19 = .ok (.invokevirtual 90, 3) := by decide +kernel
theorem dX5_idleTicks_22 : decode cX5_idleTicks 22 = .ok (.bipush (-2), 2) := by decide +kernel
theorem dX5_idleTicks_24 : decode cX5_idleTicks 24 = .ok (.if_icmp .ne 6, 3) := by decide +kernel
theorem dX5_idleTicks_27 : decode cX5_idleTicks 27 = .ok (.iinc 2 1, 3) := by decide +kernel
theorem dX5_idleTicks_30 : decode cX5_idleTicks 30 = .ok (.iinc 3 1, 3) := by decide +kernel
theorem dX5_idleTicks_33 : decode cX5_idleTicks 33 = .ok (.goto (-29), 3) := by decide +kernel
theorem dX5_idleTicks_36 : decode cX5_idleTicks 36 = .ok (.iload_n 2, 1) := by decide +kernel
theorem dX5_idleTicks_37 : decode cX5_idleTicks 37 = .ok (.ireturn, 1) := by decide +kernel
theorem dX5_total_0 : decode cX5_total 0 = .ok (.iload_n 1, 1) := by decide +kernel
theorem dX5_total_1 : decode cX5_total 1 = .ok (.tableswitch 51 6 9 #[31, 36, 41, 46], 31) := by decide +kernel
theorem dX5_total_32 : decode cX5_total 32 = .ok (.aload_n 0, 1) := by decide +kernel
theorem dX5_total_33 : decode cX5_total 33 = .ok (.getfield 23, 3) := by decide +kernel
theorem dX5_total_36 : decode cX5_total 36 = .ok (.ireturn, 1) := by decide +kernel
theorem dX5_total_37 : decode cX5_total 37 = .ok (.aload_n 0, 1) := by decide +kernel
theorem dX5_total_38 : decode cX5_total 38 = .ok (.getfield 27, 3) := by decide +kernel
theorem dX5_total_41 : decode cX5_total 41 = .ok (.ireturn, 1) := by decide +kernel
theorem dX5_total_42 : decode cX5_total 42 = .ok (.aload_n 0, 1) := by decide +kernel
theorem dX5_total_43 : decode cX5_total 43 = .ok (.getfield 30, 3) := by decide +kernel
theorem dX5_total_46 : decode cX5_total 46 = .ok (.ireturn, 1) := by decide +kernel
theorem dX5_total_47 : decode cX5_total 47 = .ok (.aload_n 0, 1) := by decide +kernel
theorem dX5_total_48 : decode cX5_total 48 = .ok (.getfield 33, 3) := by decide +kernel
theorem dX5_total_51 : decode cX5_total 51 = .ok (.ireturn, 1) := by decide +kernel
theorem dX5_total_52 : decode cX5_total 52 = .ok (.aload_n 0, 1) := by decide +kernel
theorem dX5_total_53 : decode cX5_total 53 = .ok (.getfield 36, 3) := by decide +kernel
theorem dX5_total_56 : decode cX5_total 56 = .ok (.ireturn, 1) := by decide +kernel
theorem dX6_init_0 : decode cX6_init 0 = .ok (.aload_n 0, 1) := by decide +kernel
theorem dX6_init_1 : decode cX6_init 1 = .ok (.invokespecial 3, 3) := by decide +kernel
theorem dX6_init_4 : decode cX6_init 4 = .ok (.aload_n 0, 1) := by decide +kernel
theorem dX6_init_5 : decode cX6_init 5 = .ok (.sipush 700, 3) := by decide +kernel
theorem dX6_init_8 : decode cX6_init 8 = .ok (.newarray .byte, 2) := by decide +kernel
theorem dX6_init_10 : decode cX6_init 10 = .ok (.putfield 9, 3) := by decide +kernel
theorem dX6_init_13 : decode cX6_init 13 = .ok (.return_, 1) := by decide +kernel
theorem dX6_hasRoom_0 : decode cX6_hasRoom 0 = .ok (.aload_n 0, 1) := by decide +kernel
theorem dX6_hasRoom_1 : decode cX6_hasRoom 1 = .ok (.getfield 15, 3) := by decide +kernel
theorem dX6_hasRoom_4 : decode cX6_hasRoom 4 = .ok (.iload_n 1, 1) := by decide +kernel
theorem dX6_hasRoom_5 : decode cX6_hasRoom 5 = .ok (.iadd, 1) := by decide +kernel
theorem dX6_hasRoom_6 : decode cX6_hasRoom 6 = .ok (.sipush 700, 3) := by decide +kernel
theorem dX6_hasRoom_9 : decode cX6_hasRoom 9 = .ok (.if_icmp .gt 7, 3) := by decide +kernel
theorem dX6_hasRoom_12 : decode cX6_hasRoom 12 = .ok (.iconst 1, 1) := by decide +kernel
theorem dX6_hasRoom_13 : decode cX6_hasRoom 13 = .ok (.goto 4, 3) := by decide +kernel
theorem dX6_hasRoom_16 : decode cX6_hasRoom 16 = .ok (.iconst 0, 1) := by decide +kernel
theorem dX6_hasRoom_17 : decode cX6_hasRoom 17 = .ok (.ireturn, 1) := by decide +kernel
theorem dX6_append_0 : decode cX6_append 0 = .ok (.bipush 24, 2) := by decide +kernel
theorem dX6_append_2 : decode cX6_append 2 = .ok (.istore_n 2, 1) := by decide +kernel
theorem dX6_append_3 : decode cX6_append 3 = .ok (.iload_n 2, 1) := by decide +kernel
theorem dX6_append_4 : decode cX6_append 4 = .ok (.ifCond .lt 42, 3) := by decide +kernel
theorem dX6_append_7 : decode cX6_append 7 = .ok (.aload_n 0, 1) := by decide +kernel
theorem dX6_append_8 : decode cX6_append 8 = .ok (.getfield 15, 3) := by decide +kernel
theorem dX6_append_11 : decode cX6_append 11 = .ok (.sipush 700, 3) := by decide +kernel
theorem dX6_append_14 : decode cX6_append 14 = .ok (.if_icmp .ge 32, 3) := by decide +kernel
theorem dX6_append_17 : decode cX6_append 17 = .ok (.aload_n 0, 1) := by decide +kernel
theorem dX6_append_18 : decode cX6_append 18 = .ok (.getfield 9, 3) := by decide +kernel
theorem dX6_append_21 : decode cX6_append 21 = .ok (.aload_n 0, 1) := by decide +kernel
theorem dX6_append_22 : decode cX6_append 22 = .ok (.getfield 15, 3) := by decide +kernel
theorem dX6_append_25 : decode cX6_append 25 = .ok (.iload_n 1, 1) := by decide +kernel
theorem dX6_append_26 : decode cX6_append 26 = .ok (.iload_n 2, 1) := by decide +kernel
theorem dX6_append_27 : decode cX6_append 27 = .ok (.iushr, 1) := by decide +kernel
theorem dX6_append_28 : decode cX6_append 28 = .ok (.i2b, 1) := by decide +kernel
theorem dX6_append_29 : decode cX6_append 29 = .ok (.bastore, 1) := by decide +kernel
theorem dX6_append_30 : decode cX6_append 30 = .ok (.aload_n 0, 1) := by decide +kernel
theorem dX6_append_31 : decode cX6_append 31 = .ok (.dup, 1) := by decide +kernel
theorem dX6_append_32 : decode cX6_append 32 = .ok (.getfield 15, 3) := by decide +kernel
theorem dX6_append_35 : decode cX6_append 35 = .ok (.iconst 1, 1) := by decide +kernel
theorem dX6_append_36 : decode cX6_append 36 = .ok (.iadd, 1) := by decide +kernel
theorem dX6_append_37 : decode cX6_append 37 = .ok (.putfield 15, 3) := by decide +kernel
theorem dX6_append_40 : decode cX6_append 40 = .ok (.iinc 2 (-8), 3) := by decide +kernel
theorem dX6_append_43 : decode cX6_append 43 = .ok (.goto (-40), 3) := by decide +kernel
theorem dX6_append_46 : decode cX6_append 46 = .ok (.return_, 1) := by decide +kernel
theorem dX6_clear_0 : decode cX6_clear 0 = .ok (.aload_n 0, 1) := by decide +kernel
theorem dX6_clear_1 : decode cX6_clear 1 = .ok (.iconst 0, 1) := by decide +kernel
theorem dX6_clear_2 : decode cX6_clear 2 = .ok (.putfield 15, 3) := by decide +kernel
theorem dX6_clear_5 : decode cX6_clear 5 = .ok (.return_, 1) := by decide +kernel
theorem dX6_byteAt_0 : decode cX6_byteAt 0 = .ok (.iload_n 1, 1) := by decide +kernel
theorem dX6_byteAt_1 : decode cX6_byteAt 1 = .ok (.ifCond .lt 24, 3) := by decide +kernel
theorem dX6_byteAt_4 : decode cX6_byteAt 4 = .ok (.iload_n 1, 1) := by decide +kernel
theorem dX6_byteAt_5 : decode cX6_byteAt 5 = .ok (.aload_n 0, 1) := by decide +kernel
theorem dX6_byteAt_6 : decode cX6_byteAt 6 = .ok (.getfield 15, 3) := by decide +kernel
theorem dX6_byteAt_9 : decode cX6_byteAt 9 = .ok (.if_icmp .ge 16, 3) := by decide +kernel
theorem dX6_byteAt_12 : decode cX6_byteAt 12 = .ok (.aload_n 0, 1) := by decide +kernel
theorem dX6_byteAt_13 : decode cX6_byteAt 13 = .ok (.getfield 9, 3) := by decide +kernel
theorem dX6_byteAt_16 : decode cX6_byteAt 16 = .ok (.iload_n 1, 1) := by decide +kernel
theorem dX6_byteAt_17 : decode cX6_byteAt 17 = .ok (.baload, 1) := by decide +kernel
theorem dX6_byteAt_18 : decode cX6_byteAt 18 = .ok (.sipush 255, 3) := by decide +kernel
theorem dX6_byteAt_21 : decode cX6_byteAt 21 = .ok (.iand, 1) := by decide +kernel
theorem dX6_byteAt_22 : decode cX6_byteAt 22 = .ok (.goto 5, 3) := by decide +kernel
theorem dX6_byteAt_25 : decode cX6_byteAt 25 = .ok (.bipush 32, 2) := by decide +kernel
theorem dX6_byteAt_27 : decode cX6_byteAt 27 = .ok (.ireturn, 1) := by decide +kernel
theorem dX7_init_0 : decode cX7_init 0 = .ok (.aload_n 0, 1) := by decide +kernel
theorem dX7_init_1 : decode cX7_init 1 = .ok (.invokespecial 1, 3) := by decide +kernel
theorem dX7_init_4 : decode cX7_init 4 = .ok (.aload_n 0, 1) := by decide +kernel
theorem dX7_init_5 : decode cX7_init 5 = .ok (.new 7, 3) := by decide +kernel
theorem dX7_init_8 : decode cX7_init 8 = .ok (.dup, 1) := by decide +kernel
theorem dX7_init_9 : decode cX7_init 9 = .ok (.invokespecial 9, 3) := by decide +kernel
theorem dX7_init_12 : decode cX7_init 12 = .ok (.putfield 10, 3) := by decide +kernel
theorem dX7_init_15 : decode cX7_init 15 = .ok (.aload_n 0, 1) := by decide +kernel
theorem dX7_init_16 : decode cX7_init 16 = .ok (.new 16, 3) := by decide +kernel
theorem dX7_init_19 : decode cX7_init 19 = .ok (.dup, 1) := by decide +kernel
theorem dX7_init_20 : decode cX7_init 20 = .ok (.aload_n 0, 1) := by decide +kernel
theorem dX7_init_21 : decode cX7_init 21 = .ok (.getfield 10, 3) := by decide +kernel
theorem dX7_init_24 : decode cX7_init 24 = .ok (.invokespecial 18, 3) := by decide +kernel
theorem dX7_init_27 : decode cX7_init 27 = .ok (.putfield 21, 3) := by decide +kernel
theorem dX7_init_30 : decode cX7_init 30 = .ok (.aload_n 0, 1) := by decide +kernel
theorem dX7_init_31 : decode cX7_init 31 = .ok (.new 25, 3) := by decide +kernel
theorem dX7_init_34 : decode cX7_init 34 = .ok (.dup, 1) := by decide +kernel
theorem dX7_init_35 : decode cX7_init 35 = .ok (.invokespecial 27, 3) := by decide +kernel
theorem dX7_init_38 : decode cX7_init 38 = .ok (.putfield 28, 3) := by decide +kernel
theorem dX7_init_41 : decode cX7_init 41 = .ok (.aload_n 0, 1) := by decide +kernel
theorem dX7_init_42 : decode cX7_init 42 = .ok (.new 32, 3) := by decide +kernel
theorem dX7_init_45 : decode cX7_init 45 = .ok (.dup, 1) := by decide +kernel
theorem dX7_init_46 : decode cX7_init 46 = .ok (.invokespecial 34, 3) := by decide +kernel
theorem dX7_init_49 : decode cX7_init 49 = .ok (.putfield 35, 3) := by decide +kernel
theorem dX7_init_52 : decode cX7_init 52 = .ok (.aload_n 0, 1) := by decide +kernel
theorem dX7_init_53 : decode cX7_init 53 = .ok (.new 32, 3) := by decide +kernel
theorem dX7_init_56 : decode cX7_init 56 = .ok (.dup, 1) := by decide +kernel
theorem dX7_init_57 : decode cX7_init 57 = .ok (.invokespecial 34, 3) := by decide +kernel
theorem dX7_init_60 : decode cX7_init 60 = .ok (.putfield 39, 3) := by decide +kernel
theorem dX7_init_63 : decode cX7_init 63 = .ok (.aload_n 0, 1) := by decide +kernel
theorem dX7_init_64 : decode cX7_init 64 = .ok (.new 32, 3) := by decide +kernel
theorem dX7_init_67 : decode cX7_init 67 = .ok (.dup, 1) := by decide +kernel
theorem dX7_init_68 : decode cX7_init 68 = .ok (.invokespecial 34, 3) := by decide +kernel
theorem dX7_init_71 : decode cX7_init 71 = .ok (.putfield 42, 3) := by decide +kernel
theorem dX7_init_74 : decode cX7_init 74 = .ok (.aload_n 0, 1) := by decide +kernel
theorem dX7_init_75 : decode cX7_init 75 = .ok (.new 45, 3) := by decide +kernel
theorem dX7_init_78 : decode cX7_init 78 = .ok (.dup, 1) := by decide +kernel
theorem dX7_init_79 : decode cX7_init 79 = .ok (.invokespecial 47, 3) := by decide +kernel
theorem dX7_init_82 : decode cX7_init 82 = .ok (.putfield 48, 3) := by decide +kernel
theorem dX7_init_85 : decode cX7_init 85 = .ok (.aload_n 0, 1) := by decide +kernel
theorem dX7_init_86 : decode cX7_init 86 = .ok (.new 45, 3) := by decide +kernel
theorem dX7_init_89 : decode cX7_init 89 = .ok (.dup, 1) := by decide +kernel
theorem dX7_init_90 : decode cX7_init 90 = .ok (.invokespecial 47, 3) := by decide +kernel
theorem dX7_init_93 : decode cX7_init 93 = .ok (.putfield 52, 3) := by decide +kernel
theorem dX7_init_96 : decode cX7_init 96 = .ok (.return_, 1) := by decide +kernel
theorem dX7_feed_0 : decode cX7_feed 0 = .ok (.aload_n 0, 1) := by decide +kernel
theorem dX7_feed_1 : decode cX7_feed 1 = .ok (.getfield 10, 3) := by decide +kernel
theorem dX7_feed_4 : decode cX7_feed 4 = .ok (.bipush 20, 2) := by decide +kernel
theorem dX7_feed_6 : decode cX7_feed 6 = .ok (.invokevirtual 55, 3) := by decide +kernel
theorem dX7_feed_9 : decode cX7_feed 9 = .ok (.ifCond .ne 5, 3) := by decide +kernel
theorem dX7_feed_12 : decode cX7_feed 12 = .ok (.iconst (-1), 1) := by decide +kernel
theorem dX7_feed_13 : decode cX7_feed 13 = .ok (.ireturn, 1) := by decide +kernel
theorem dX7_feed_14 : decode cX7_feed 14 = .ok (.aload_n 0, 1) := by decide +kernel
theorem dX7_feed_15 : decode cX7_feed 15 = .ok (.getfield 10, 3) := by decide +kernel
theorem dX7_feed_18 : decode cX7_feed 18 = .ok (.iload_n 1, 1) := by decide +kernel
theorem dX7_feed_19 : decode cX7_feed 19 = .ok (.invokevirtual 59, 3) := by decide +kernel
theorem dX7_feed_22 : decode cX7_feed 22 = .ok (.aload_n 0, 1) := by decide +kernel
theorem dX7_feed_23 : decode cX7_feed 23 = .ok (.getfield 10, 3) := by decide +kernel
theorem dX7_feed_26 : decode cX7_feed 26 = .ok (.iload_n 2, 1) := by decide +kernel
theorem dX7_feed_27 : decode cX7_feed 27 = .ok (.invokevirtual 59, 3) := by decide +kernel
theorem dX7_feed_30 : decode cX7_feed 30 = .ok (.aload_n 0, 1) := by decide +kernel
theorem dX7_feed_31 : decode cX7_feed 31 = .ok (.getfield 10, 3) := by decide +kernel
theorem dX7_feed_34 : decode cX7_feed 34 = .ok (.iload_n 3, 1) := by decide +kernel
theorem dX7_feed_35 : decode cX7_feed 35 = .ok (.invokevirtual 59, 3) := by decide +kernel
theorem dX7_feed_38 : decode cX7_feed 38 = .ok (.aload_n 0, 1) := by decide +kernel
theorem dX7_feed_39 : decode cX7_feed 39 = .ok (.getfield 10, 3) := by decide +kernel
theorem dX7_feed_42 : decode cX7_feed 42 = .ok (.iload 4, 2) := by decide +kernel
theorem dX7_feed_44 : decode cX7_feed 44 = .ok (.invokevirtual 59, 3) := by decide +kernel
theorem dX7_feed_47 : decode cX7_feed 47 = .ok (.aload_n 0, 1) := by decide +kernel
theorem dX7_feed_48 : decode cX7_feed 48 = .ok (.getfield 10, 3) := by decide +kernel
theorem dX7_feed_51 : decode cX7_feed 51 = .ok (.iload 5, 2) := by decide +kernel
theorem dX7_feed_53 : decode cX7_feed 53 = .ok (.invokevirtual 59, 3) := by decide +kernel
theorem dX7_feed_56 : decode cX7_feed 56 = .ok (.aload_n 0, 1) := by decide +kernel
theorem dX7_feed_57 : decode cX7_feed 57 = .ok (.getfield 10, 3) := by decide +kernel
theorem dX7_feed_60 : decode cX7_feed 60 = .ok (.getfield 63, 3) := by decide +kernel
theorem dX7_feed_63 : decode cX7_feed 63 = .ok (.ireturn, 1) := by decide +kernel
theorem dX7_bus_0 : decode cX7_bus 0 = .ok (.iload_n 1, 1) := by decide +kernel
theorem dX7_bus_1 : decode cX7_bus 1 = .ok (.ifCond .lt 14, 3) := by decide +kernel
theorem dX7_bus_4 : decode cX7_bus 4 = .ok (.iload_n 1, 1) := by decide +kernel
theorem dX7_bus_5 : decode cX7_bus 5 = .ok (.aload_n 0, 1) := by decide +kernel
theorem dX7_bus_6 : decode cX7_bus 6 = .ok (.getfield 10, 3) := by decide +kernel
theorem dX7_bus_9 : decode cX7_bus 9 = .ok (.getfield 63, 3) := by decide +kernel
theorem dX7_bus_12 : decode cX7_bus 12 = .ok (.if_icmp .le 9, 3) := by decide +kernel
theorem dX7_bus_15 : decode cX7_bus 15 = .ok (.aload_n 0, 1) := by decide +kernel
theorem dX7_bus_16 : decode cX7_bus 16 = .ok (.iconst 2, 1) := by decide +kernel
theorem dX7_bus_17 : decode cX7_bus 17 = .ok (.invokevirtual 67, 3) := by decide +kernel
theorem dX7_bus_20 : decode cX7_bus 20 = .ok (.ireturn, 1) := by decide +kernel
theorem dX7_bus_21 : decode cX7_bus 21 = .ok (.aload_n 0, 1) := by decide +kernel
theorem dX7_bus_22 : decode cX7_bus 22 = .ok (.aload_n 0, 1) := by decide +kernel
theorem dX7_bus_23 : decode cX7_bus 23 = .ok (.getfield 21, 3) := by decide +kernel
theorem dX7_bus_26 : decode cX7_bus 26 = .ok (.iload_n 1, 1) := by decide +kernel
theorem dX7_bus_27 : decode cX7_bus 27 = .ok (.aload_n 0, 1) := by decide +kernel
theorem dX7_bus_28 : decode cX7_bus 28 = .ok (.getfield 52, 3) := by decide +kernel
theorem dX7_bus_31 : decode cX7_bus 31 = .ok (.invokevirtual 71, 3) := by decide +kernel
theorem dX7_bus_34 : decode cX7_bus 34 = .ok (.putfield 75, 3) := by decide +kernel
theorem dX7_bus_37 : decode cX7_bus 37 = .ok (.aload_n 0, 1) := by decide +kernel
theorem dX7_bus_38 : decode cX7_bus 38 = .ok (.getfield 10, 3) := by decide +kernel
theorem dX7_bus_41 : decode cX7_bus 41 = .ok (.invokevirtual 78, 3) := by decide +kernel
theorem dX7_bus_44 : decode cX7_bus 44 = .ok (.aload_n 0, 1) := by decide +kernel
theorem dX7_bus_45 : decode cX7_bus 45 = .ok (.getfield 75, 3) := by decide +kernel
theorem dX7_bus_48 : decode cX7_bus 48 = .ok (.ifCond .eq 20, 3) := by decide +kernel
theorem dX7_bus_51 : decode cX7_bus 51 = .ok (.aload_n 0, 1) := by decide +kernel
theorem dX7_bus_52 : decode cX7_bus 52 = .ok (.aload_n 0, 1) := by decide +kernel
theorem dX7_bus_53 : decode cX7_bus 53 = .ok (.getfield 21, 3) := by decide +kernel
theorem dX7_bus_56 : decode cX7_bus 56 = .ok (.getfield 81, 3) := by decide +kernel
theorem dX7_bus_59 : decode cX7_bus 59 = .ok (.putfield 84, 3) := by decide +kernel
theorem dX7_bus_62 : decode cX7_bus 62 = .ok (.aload_n 0, 1) := by decide +kernel
theorem dX7_bus_63 : decode cX7_bus 63 = .ok (.iconst 4, 1) := by decide +kernel
theorem dX7_bus_64 : decode cX7_bus 64 = .ok (.invokevirtual 67, 3) := by decide +kernel
theorem dX7_bus_67 : decode cX7_bus 67 = .ok (.ireturn, 1) := by decide +kernel
theorem dX7_bus_68 : decode cX7_bus 68 = .ok (.aload_n 0, 1) := by decide +kernel
theorem dX7_bus_69 : decode cX7_bus 69 = .ok (.getfield 48, 3) := by decide +kernel
theorem dX7_bus_72 : decode cX7_bus 72 = .ok (.astore_n 2, 1) := by decide +kernel
theorem dX7_bus_73 : decode cX7_bus 73 = .ok (.aload_n 0, 1) := by decide +kernel
theorem dX7_bus_74 : decode cX7_bus 74 = .ok (.aload_n 0, 1) := by decide +kernel
theorem dX7_bus_75 : decode cX7_bus 75 = .ok (.getfield 52, 3) := by decide +kernel
theorem dX7_bus_78 : decode cX7_bus 78 = .ok (.putfield 48, 3) := by decide +kernel
theorem dX7_bus_81 : decode cX7_bus 81 = .ok (.aload_n 0, 1) := by decide +kernel
theorem dX7_bus_82 : decode cX7_bus 82 = .ok (.aload_n 2, 1) := by decide +kernel
theorem dX7_bus_83 : decode cX7_bus 83 = .ok (.putfield 52, 3) := by decide +kernel
theorem dX7_bus_86 : decode cX7_bus 86 = .ok (.aload_n 0, 1) := by decide +kernel
theorem dX7_bus_87 : decode cX7_bus 87 = .ok (.getfield 35, 3) := by decide +kernel
theorem dX7_bus_90 : decode cX7_bus 90 = .ok (.aload_n 0, 1) := by decide +kernel
theorem dX7_bus_91 : decode cX7_bus 91 = .ok (.getfield 48, 3) := by decide +kernel
theorem dX7_bus_94 : decode cX7_bus 94 = .ok (.invokevirtual 85, 3) := by decide +kernel
theorem dX7_bus_97 : decode cX7_bus 97 = .ok (.aload_n 0, 1) := by decide +kernel
theorem dX7_bus_98 : decode cX7_bus 98 = .ok (.iconst 1, 1) := by decide +kernel
theorem dX7_bus_99 : decode cX7_bus 99 = .ok (.putfield 89, 3) := by decide +kernel
theorem dX7_bus_102 : decode cX7_bus 102 = .ok (.aload_n 0, 1) := by decide +kernel
theorem dX7_bus_103 : decode cX7_bus 103 = .ok (.iconst 0, 1) := by decide +kernel
theorem dX7_bus_104 : decode cX7_bus 104 = .ok (.putfield 93, 3) := by decide +kernel
theorem dX7_bus_107 : decode cX7_bus 107 = .ok (.aload_n 0, 1) := by decide +kernel
theorem dX7_bus_108 : decode cX7_bus 108 = .ok (.aload_n 0, 1) := by decide +kernel
theorem dX7_bus_109 : decode cX7_bus 109 = .ok (.getfield 48, 3) := by decide +kernel
theorem dX7_bus_112 : decode cX7_bus 112 = .ok (.getfield 96, 3) := by decide +kernel
theorem dX7_bus_115 : decode cX7_bus 115 = .ok (.invokevirtual 99, 3) := by decide +kernel
theorem dX7_bus_118 : decode cX7_bus 118 = .ok (.ireturn, 1) := by decide +kernel
theorem dX7_fault_0 : decode cX7_fault 0 = .ok (.aload_n 0, 1) := by decide +kernel
theorem dX7_fault_1 : decode cX7_fault 1 = .ok (.getfield 75, 3) := by decide +kernel
theorem dX7_fault_4 : decode cX7_fault 4 = .ok (.ireturn, 1) := by decide +kernel
theorem dX7_where_0 : decode cX7_where 0 = .ok (.aload_n 0, 1) := by decide +kernel
theorem dX7_where_1 : decode cX7_where 1 = .ok (.getfield 102, 3) := by decide +kernel
theorem dX7_where_4 : decode cX7_where 4 = .ok (.iconst 4, 1) := by decide +kernel
theorem dX7_where_5 : decode cX7_where 5 = .ok (.if_icmp .ne 10, 3) := by decide +kernel
theorem dX7_where_8 : decode cX7_where 8 = .ok (.aload_n 0, 1) := by decide +kernel
theorem dX7_where_9 : decode cX7_where 9 = .ok (.getfield 84, 3) := by decide +kernel
theorem dX7_where_12 : decode cX7_where 12 = .ok (.goto 4, 3) := by decide +kernel
theorem dX7_where_15 : decode cX7_where 15 = .ok (.iconst (-1), 1) := by decide +kernel
theorem dX7_where_16 : decode cX7_where 16 = .ok (.ireturn, 1) := by decide +kernel
theorem dX7_about_0 : decode cX7_about 0 = .ok (.aload_n 0, 1) := by decide +kernel
theorem dX7_about_1 : decode cX7_about 1 = .ok (.getfield 89, 3) := by decide +kernel
theorem dX7_about_4 : decode cX7_about 4 = .ok (.ifCond .eq 12, 3) := by decide +kernel
theorem dX7_about_7 : decode cX7_about 7 = .ok (.iload_n 1, 1) := by decide +kernel
theorem dX7_about_8 : decode cX7_about 8 = .ok (.bipush 6, 2) := by decide +kernel
theorem dX7_about_10 : decode cX7_about 10 = .ok (.invokestatic 105, 3) := by decide +kernel
theorem dX7_about_13 : decode cX7_about 13 = .ok (.ifCond .ne 9, 3) := by decide +kernel
theorem dX7_about_16 : decode cX7_about 16 = .ok (.aload_n 0, 1) := by decide +kernel
theorem dX7_about_17 : decode cX7_about 17 = .ok (.iconst 1, 1) := by decide +kernel
theorem dX7_about_18 : decode cX7_about 18 = .ok (.invokevirtual 67, 3) := by decide +kernel
theorem dX7_about_21 : decode cX7_about 21 = .ok (.ireturn, 1) := by decide +kernel
theorem dX7_about_22 : decode cX7_about 22 = .ok (.aload_n 0, 1) := by decide +kernel
theorem dX7_about_23 : decode cX7_about 23 = .ok (.iload_n 1, 1) := by decide +kernel
theorem dX7_about_24 : decode cX7_about 24 = .ok (.iconst 5, 1) := by decide +kernel
theorem dX7_about_25 : decode cX7_about 25 = .ok (.if_icmp .ne 13, 3) := by decide +kernel
theorem dX7_about_28 : decode cX7_about 28 = .ok (.aload_n 0, 1) := by decide +kernel
theorem dX7_about_29 : decode cX7_about 29 = .ok (.getfield 35, 3) := by decide +kernel
theorem dX7_about_32 : decode cX7_about 32 = .ok (.getfield 109, 3) := by decide +kernel
theorem dX7_about_35 : decode cX7_about 35 = .ok (.goto 11, 3) := by decide +kernel
theorem dX7_about_38 : decode cX7_about 38 = .ok (.aload_n 0, 1) := by decide +kernel
theorem dX7_about_39 : decode cX7_about 39 = .ok (.getfield 48, 3) := by decide +kernel
theorem dX7_about_42 : decode cX7_about 42 = .ok (.iload_n 1, 1) := by decide +kernel
theorem dX7_about_43 : decode cX7_about 43 = .ok (.invokevirtual 112, 3) := by decide +kernel
theorem dX7_about_46 : decode cX7_about 46 = .ok (.invokevirtual 99, 3) := by decide +kernel
theorem dX7_about_49 : decode cX7_about 49 = .ok (.ireturn, 1) := by decide +kernel
theorem dX7_board_0 : decode cX7_board 0 = .ok (.aload_n 0, 1) := by decide +kernel
theorem dX7_board_1 : decode cX7_board 1 = .ok (.iload_n 1, 1) := by decide +kernel
theorem dX7_board_2 : decode cX7_board 2 = .ok (.invokevirtual 115, 3) := by decide +kernel
theorem dX7_board_5 : decode cX7_board 5 = .ok (.ifCond .eq 12, 3) := by decide +kernel
theorem dX7_board_8 : decode cX7_board 8 = .ok (.iload_n 2, 1) := by decide +kernel
theorem dX7_board_9 : decode cX7_board 9 = .ok (.bipush 7, 2) := by decide +kernel
theorem dX7_board_11 : decode cX7_board 11 = .ok (.invokestatic 105, 3) := by decide +kernel
theorem dX7_board_14 : decode cX7_board 14 = .ok (.ifCond .ne 9, 3) := by decide +kernel
theorem dX7_board_17 : decode cX7_board 17 = .ok (.aload_n 0, 1) := by decide +kernel
theorem dX7_board_18 : decode cX7_board 18 = .ok (.iconst 1, 1) := by decide +kernel
theorem dX7_board_19 : decode cX7_board 19 = .ok (.invokevirtual 67, 3) := by decide +kernel
theorem dX7_board_22 : decode cX7_board 22 = .ok (.ireturn, 1) := by decide +kernel
theorem dX7_board_23 : decode cX7_board 23 = .ok (.aload_n 0, 1) := by decide +kernel
theorem dX7_board_24 : decode cX7_board 24 = .ok (.iload_n 2, 1) := by decide +kernel
theorem dX7_board_25 : decode cX7_board 25 = .ok (.iconst 3, 1) := by decide +kernel
theorem dX7_board_26 : decode cX7_board 26 = .ok (.if_icmp .ge 15, 3) := by decide +kernel
theorem dX7_board_29 : decode cX7_board 29 = .ok (.aload_n 0, 1) := by decide +kernel
theorem dX7_board_30 : decode cX7_board 30 = .ok (.getfield 48, 3) := by decide +kernel
theorem dX7_board_33 : decode cX7_board 33 = .ok (.iload_n 1, 1) := by decide +kernel
theorem dX7_board_34 : decode cX7_board 34 = .ok (.iload_n 2, 1) := by decide +kernel
theorem dX7_board_35 : decode cX7_board 35 = .ok (.invokevirtual 118, 3) := by decide +kernel
theorem dX7_board_38 : decode cX7_board 38 = .ok (.goto 12, 3) := by decide +kernel
theorem dX7_board_41 : decode cX7_board 41 = .ok (.aload_n 0, 1) := by decide +kernel
theorem dX7_board_42 : decode cX7_board 42 = .ok (.getfield 35, 3) := by decide +kernel
theorem dX7_board_45 : decode cX7_board 45 = .ok (.iload_n 1, 1) := by decide +kernel
theorem dX7_board_46 : decode cX7_board 46 = .ok (.iload_n 2, 1) := by decide +kernel
theorem dX7_board_47 : decode cX7_board 47 = .ok (.invokevirtual 122, 3) := by decide +kernel
theorem dX7_board_50 : decode cX7_board 50 = .ok (.invokevirtual 99, 3) := by decide +kernel
theorem dX7_board_53 : decode cX7_board 53 = .ok (.ireturn, 1) := by decide +kernel
theorem dX7_named_0 : decode cX7_named 0 = .ok (.aload_n 0, 1) := by decide +kernel
theorem dX7_named_1 : decode cX7_named 1 = .ok (.getfield 89, 3) := by decide +kernel
theorem dX7_named_4 : decode cX7_named 4 = .ok (.ifCond .eq 14, 3) := by decide +kernel
theorem dX7_named_7 : decode cX7_named 7 = .ok (.aload_n 0, 1) := by decide +kernel
theorem dX7_named_8 : decode cX7_named 8 = .ok (.getfield 48, 3) := by decide +kernel
theorem dX7_named_11 : decode cX7_named 11 = .ok (.iload_n 1, 1) := by decide +kernel
theorem dX7_named_12 : decode cX7_named 12 = .ok (.invokevirtual 125, 3) := by decide +kernel
theorem dX7_named_15 : decode cX7_named 15 = .ok (.goto 4, 3) := by decide +kernel
theorem dX7_named_18 : decode cX7_named 18 = .ok (.iconst (-1), 1) := by decide +kernel
theorem dX7_named_19 : decode cX7_named 19 = .ok (.istore_n 2, 1) := by decide +kernel
theorem dX7_named_20 : decode cX7_named 20 = .ok (.iload_n 2, 1) := by decide +kernel
theorem dX7_named_21 : decode cX7_named 21 = .ok (.iconst (-1), 1) := by decide +kernel
theorem dX7_named_22 : decode cX7_named 22 = .ok (.if_icmp .ne 11, 3) := by decide +kernel
theorem dX7_named_25 : decode cX7_named 25 = .ok (.aload_n 0, 1) := by decide +kernel
theorem dX7_named_26 : decode cX7_named 26 = .ok (.iconst 1, 1) := by decide +kernel
theorem dX7_named_27 : decode cX7_named 27 = .ok (.invokevirtual 67, 3) := by decide +kernel
theorem dX7_named_30 : decode cX7_named 30 = .ok (.goto 8, 3) := by decide +kernel
theorem dX7_named_33 : decode cX7_named 33 = .ok (.aload_n 0, 1) := by decide +kernel
theorem dX7_named_34 : decode cX7_named 34 = .ok (.iload_n 2, 1) := by decide +kernel
theorem dX7_named_35 : decode cX7_named 35 = .ok (.invokevirtual 99, 3) := by decide +kernel
theorem dX7_named_38 : decode cX7_named 38 = .ok (.ireturn, 1) := by decide +kernel
theorem dX7_word_0 : decode cX7_word 0 = .ok (.aload_n 0, 1) := by decide +kernel
theorem dX7_word_1 : decode cX7_word 1 = .ok (.iload_n 1, 1) := by decide +kernel
theorem dX7_word_2 : decode cX7_word 2 = .ok (.invokevirtual 115, 3) := by decide +kernel
theorem dX7_word_5 : decode cX7_word 5 = .ok (.ifCond .ne 9, 3) := by decide +kernel
theorem dX7_word_8 : decode cX7_word 8 = .ok (.aload_n 0, 1) := by decide +kernel
theorem dX7_word_9 : decode cX7_word 9 = .ok (.iconst 1, 1) := by decide +kernel
theorem dX7_word_10 : decode cX7_word 10 = .ok (.invokevirtual 67, 3) := by decide +kernel
theorem dX7_word_13 : decode cX7_word 13 = .ok (.ireturn, 1) := by decide +kernel
theorem dX7_word_14 : decode cX7_word 14 = .ok (.iload_n 2, 1) := by decide +kernel
theorem dX7_word_15 : decode cX7_word 15 = .ok (.invokestatic 128, 3) := by decide +kernel
theorem dX7_word_18 : decode cX7_word 18 = .ok (.ifCond .ne 9, 3) := by decide +kernel
theorem dX7_word_21 : decode cX7_word 21 = .ok (.aload_n 0, 1) := by decide +kernel
theorem dX7_word_22 : decode cX7_word 22 = .ok (.iconst 2, 1) := by decide +kernel
theorem dX7_word_23 : decode cX7_word 23 = .ok (.invokevirtual 67, 3) := by decide +kernel
theorem dX7_word_26 : decode cX7_word 26 = .ok (.ireturn, 1) := by decide +kernel
theorem dX7_word_27 : decode cX7_word 27 = .ok (.aload_n 0, 1) := by decide +kernel
theorem dX7_word_28 : decode cX7_word 28 = .ok (.iload_n 2, 1) := by decide +kernel
theorem dX7_word_29 : decode cX7_word 29 = .ok (.iconst 1, 1) := by decide +kernel
theorem dX7_word_30 : decode cX7_word 30 = .ok (.if_icmp .ne 15, 3) := by decide +kernel
theorem dX7_word_33 : decode cX7_word 33 = .ok (.aload_n 0, 1) := by decide +kernel
theorem dX7_word_34 : decode cX7_word 34 = .ok (.getfield 35, 3) := by decide +kernel
theorem dX7_word_37 : decode cX7_word 37 = .ok (.invokevirtual 131, 3) := by decide +kernel
theorem dX7_word_40 : decode cX7_word 40 = .ok (.iload_n 1, 1) := by decide +kernel
theorem dX7_word_41 : decode cX7_word 41 = .ok (.iaload, 1) := by decide +kernel
theorem dX7_word_42 : decode cX7_word 42 = .ok (.goto 12, 3) := by decide +kernel
theorem dX7_word_45 : decode cX7_word 45 = .ok (.aload_n 0, 1) := by decide +kernel
theorem dX7_word_46 : decode cX7_word 46 = .ok (.getfield 48, 3) := by decide +kernel
theorem dX7_word_49 : decode cX7_word 49 = .ok (.getfield 135, 3) := by decide +kernel
theorem dX7_word_52 : decode cX7_word 52 = .ok (.iload_n 1, 1) := by decide +kernel
theorem dX7_word_53 : decode cX7_word 53 = .ok (.iaload, 1) := by decide +kernel
theorem dX7_word_54 : decode cX7_word 54 = .ok (.invokevirtual 99, 3) := by decide +kernel
theorem dX7_word_57 : decode cX7_word 57 = .ok (.ireturn, 1) := by decide +kernel
theorem dX7_drives_0 : decode cX7_drives 0 = .ok (.aload_n 0, 1) := by decide +kernel
theorem dX7_drives_1 : decode cX7_drives 1 = .ok (.aload_n 0, 1) := by decide +kernel
theorem dX7_drives_2 : decode cX7_drives 2 = .ok (.iload_n 3, 1) := by decide +kernel
theorem dX7_drives_3 : decode cX7_drives 3 = .ok (.invokevirtual 115, 3) := by decide +kernel
theorem dX7_drives_6 : decode cX7_drives 6 = .ok (.aload_n 0, 1) := by decide +kernel
theorem dX7_drives_7 : decode cX7_drives 7 = .ok (.iload_n 1, 1) := by decide +kernel
theorem dX7_drives_8 : decode cX7_drives 8 = .ok (.iload_n 2, 1) := by decide +kernel
theorem dX7_drives_9 : decode cX7_drives 9 = .ok (.invokevirtual 139, 3) := by decide +kernel
theorem dX7_drives_12 : decode cX7_drives 12 = .ok (.ifCond .eq 15, 3) := by decide +kernel
theorem dX7_drives_15 : decode cX7_drives 15 = .ok (.iload 4, 2) := by decide +kernel
theorem dX7_drives_17 : decode cX7_drives 17 = .ok (.invokestatic 142, 3) := by decide +kernel
theorem dX7_drives_20 : decode cX7_drives 20 = .ok (.ifCond .eq 7, 3) := by decide +kernel
theorem dX7_drives_23 : decode cX7_drives 23 = .ok (.iconst 1, 1) := by decide +kernel
theorem dX7_drives_24 : decode cX7_drives 24 = .ok (.goto 4, 3) := by decide +kernel
theorem dX7_drives_27 : decode cX7_drives 27 = .ok (.iconst 0, 1) := by decide +kernel
theorem dX7_drives_28 : decode cX7_drives 28 = .ok (.invokevirtual 145, 3) := by decide +kernel
theorem dX7_drives_31 : decode cX7_drives 31 = .ok (.ifCond .ne 5, 3) := by decide +kernel
theorem dX7_drives_34 : decode cX7_drives 34 = .ok (.iconst (-1), 1) := by decide +kernel
theorem dX7_drives_35 : decode cX7_drives 35 = .ok (.ireturn, 1) := by decide +kernel
theorem dX7_drives_36 : decode cX7_drives 36 = .ok (.aload_n 0, 1) := by decide +kernel
theorem dX7_drives_37 : decode cX7_drives 37 = .ok (.iload_n 1, 1) := by decide +kernel
theorem dX7_drives_38 : decode cX7_drives 38 = .ok (.iload_n 2, 1) := by decide +kernel
theorem dX7_drives_39 : decode cX7_drives 39 = .ok (.invokevirtual 149, 3) := by decide +kernel
theorem dX7_drives_42 : decode cX7_drives 42 = .ok (.iload_n 3, 1) := by decide +kernel
theorem dX7_drives_43 : decode cX7_drives 43 = .ok (.iload 4, 2) := by decide +kernel
theorem dX7_drives_45 : decode cX7_drives 45 = .ok (.invokevirtual 153, 3) := by decide +kernel
theorem dX7_drives_48 : decode cX7_drives 48 = .ok (.ireturn, 1) := by decide +kernel
theorem dX7_seen_0 : decode cX7_seen 0 = .ok (.aload_n 0, 1) := by decide +kernel
theorem dX7_seen_1 : decode cX7_seen 1 = .ok (.aload_n 0, 1) := by decide +kernel
theorem dX7_seen_2 : decode cX7_seen 2 = .ok (.iload_n 3, 1) := by decide +kernel
theorem dX7_seen_3 : decode cX7_seen 3 = .ok (.invokevirtual 115, 3) := by decide +kernel
theorem dX7_seen_6 : decode cX7_seen 6 = .ok (.aload_n 0, 1) := by decide +kernel
theorem dX7_seen_7 : decode cX7_seen 7 = .ok (.iload_n 1, 1) := by decide +kernel
theorem dX7_seen_8 : decode cX7_seen 8 = .ok (.iload_n 2, 1) := by decide +kernel
theorem dX7_seen_9 : decode cX7_seen 9 = .ok (.invokevirtual 139, 3) := by decide +kernel
theorem dX7_seen_12 : decode cX7_seen 12 = .ok (.ifCond .eq 15, 3) := by decide +kernel
theorem dX7_seen_15 : decode cX7_seen 15 = .ok (.iload 4, 2) := by decide +kernel
theorem dX7_seen_17 : decode cX7_seen 17 = .ok (.invokestatic 142, 3) := by decide +kernel
theorem dX7_seen_20 : decode cX7_seen 20 = .ok (.ifCond .eq 7, 3) := by decide +kernel
theorem dX7_seen_23 : decode cX7_seen 23 = .ok (.iconst 1, 1) := by decide +kernel
theorem dX7_seen_24 : decode cX7_seen 24 = .ok (.goto 4, 3) := by decide +kernel
theorem dX7_seen_27 : decode cX7_seen 27 = .ok (.iconst 0, 1) := by decide +kernel
theorem dX7_seen_28 : decode cX7_seen 28 = .ok (.invokevirtual 145, 3) := by decide +kernel
theorem dX7_seen_31 : decode cX7_seen 31 = .ok (.ifCond .ne 5, 3) := by decide +kernel
theorem dX7_seen_34 : decode cX7_seen 34 = .ok (.iconst (-1), 1) := by decide +kernel
theorem dX7_seen_35 : decode cX7_seen 35 = .ok (.ireturn, 1) := by decide +kernel
theorem dX7_seen_36 : decode cX7_seen 36 = .ok (.aload_n 0, 1) := by decide +kernel
theorem dX7_seen_37 : decode cX7_seen 37 = .ok (.iload_n 1, 1) := by decide +kernel
theorem dX7_seen_38 : decode cX7_seen 38 = .ok (.iload_n 2, 1) := by decide +kernel
theorem dX7_seen_39 : decode cX7_seen 39 = .ok (.invokevirtual 149, 3) := by decide +kernel
theorem dX7_seen_42 : decode cX7_seen 42 = .ok (.iload_n 3, 1) := by decide +kernel
theorem dX7_seen_43 : decode cX7_seen 43 = .ok (.iload 4, 2) := by decide +kernel
theorem dX7_seen_45 : decode cX7_seen 45 = .ok (.invokevirtual 158, 3) := by decide +kernel
theorem dX7_seen_48 : decode cX7_seen 48 = .ok (.ireturn, 1) := by decide +kernel
theorem dX7_taken_0 : decode cX7_taken 0 = .ok (.aload_n 0, 1) := by decide +kernel
theorem dX7_taken_1 : decode cX7_taken 1 = .ok (.aload_n 0, 1) := by decide +kernel
theorem dX7_taken_2 : decode cX7_taken 2 = .ok (.iload_n 3, 1) := by decide +kernel
theorem dX7_taken_3 : decode cX7_taken 3 = .ok (.invokevirtual 115, 3) := by decide +kernel
theorem dX7_taken_6 : decode cX7_taken 6 = .ok (.aload_n 0, 1) := by decide +kernel
theorem dX7_taken_7 : decode cX7_taken 7 = .ok (.iload_n 1, 1) := by decide +kernel
theorem dX7_taken_8 : decode cX7_taken 8 = .ok (.iload_n 2, 1) := by decide +kernel
theorem dX7_taken_9 : decode cX7_taken 9 = .ok (.invokevirtual 139, 3) := by decide +kernel
theorem dX7_taken_12 : decode cX7_taken 12 = .ok (.ifCond .eq 15, 3) := by decide +kernel
theorem dX7_taken_15 : decode cX7_taken 15 = .ok (.iload 4, 2) := by decide +kernel
theorem dX7_taken_17 : decode cX7_taken 17 = .ok (.invokestatic 142, 3) := by decide +kernel
theorem dX7_taken_20 : decode cX7_taken 20 = .ok (.ifCond .eq 7, 3) := by decide +kernel
theorem dX7_taken_23 : decode cX7_taken 23 = .ok (.iconst 1, 1) := by decide +kernel
theorem dX7_taken_24 : decode cX7_taken 24 = .ok (.goto 4, 3) := by decide +kernel
theorem dX7_taken_27 : decode cX7_taken 27 = .ok (.iconst 0, 1) := by decide +kernel
theorem dX7_taken_28 : decode cX7_taken 28 = .ok (.invokevirtual 145, 3) := by decide +kernel
theorem dX7_taken_31 : decode cX7_taken 31 = .ok (.ifCond .ne 5, 3) := by decide +kernel
theorem dX7_taken_34 : decode cX7_taken 34 = .ok (.iconst (-1), 1) := by decide +kernel
theorem dX7_taken_35 : decode cX7_taken 35 = .ok (.ireturn, 1) := by decide +kernel
theorem dX7_taken_36 : decode cX7_taken 36 = .ok (.aload_n 0, 1) := by decide +kernel
theorem dX7_taken_37 : decode cX7_taken 37 = .ok (.iload_n 1, 1) := by decide +kernel
theorem dX7_taken_38 : decode cX7_taken 38 = .ok (.iload_n 2, 1) := by decide +kernel
theorem dX7_taken_39 : decode cX7_taken 39 = .ok (.invokevirtual 149, 3) := by decide +kernel
theorem dX7_taken_42 : decode cX7_taken 42 = .ok (.iload_n 3, 1) := by decide +kernel
theorem dX7_taken_43 : decode cX7_taken 43 = .ok (.iload 4, 2) := by decide +kernel
theorem dX7_taken_45 : decode cX7_taken 45 = .ok (.invokevirtual 161, 3) := by decide +kernel
theorem dX7_taken_48 : decode cX7_taken 48 = .ok (.ireturn, 1) := by decide +kernel
theorem dX7_withdrawn_0 : decode cX7_withdrawn 0 = .ok (.aload_n 0, 1) := by decide +kernel
theorem dX7_withdrawn_1 : decode cX7_withdrawn 1 = .ok (.aload_n 0, 1) := by decide +kernel
theorem dX7_withdrawn_2 : decode cX7_withdrawn 2 = .ok (.iload_n 3, 1) := by decide +kernel
theorem dX7_withdrawn_3 : decode cX7_withdrawn 3 = .ok (.invokevirtual 115, 3) := by decide +kernel
theorem dX7_withdrawn_6 : decode cX7_withdrawn 6 = .ok (.aload_n 0, 1) := by decide +kernel
theorem dX7_withdrawn_7 : decode cX7_withdrawn 7 = .ok (.iload_n 1, 1) := by decide +kernel
theorem dX7_withdrawn_8 : decode cX7_withdrawn 8 = .ok (.iload_n 2, 1) := by decide +kernel
theorem dX7_withdrawn_9 : decode cX7_withdrawn 9 = .ok (.invokevirtual 139, 3) := by decide +kernel
theorem dX7_withdrawn_12 : decode cX7_withdrawn 12 = .ok (.ifCond .eq 15, 3) := by decide +kernel
theorem dX7_withdrawn_15 : decode cX7_withdrawn 15 = .ok (.iload 4, 2) := by decide +kernel
theorem dX7_withdrawn_17 : decode cX7_withdrawn 17 = .ok (.invokestatic 142, 3) := by decide +kernel
theorem dX7_withdrawn_20 : decode cX7_withdrawn 20 = .ok (.ifCond .eq 7, 3) := by decide +kernel
theorem dX7_withdrawn_23 : decode cX7_withdrawn 23 = .ok (.iconst 1, 1) := by decide +kernel
theorem dX7_withdrawn_24 : decode cX7_withdrawn 24 = .ok (.goto 4, 3) := by decide +kernel
theorem dX7_withdrawn_27 : decode cX7_withdrawn 27 = .ok (.iconst 0, 1) := by decide +kernel
theorem dX7_withdrawn_28 : decode cX7_withdrawn 28 = .ok (.invokevirtual 145, 3) := by decide +kernel
theorem dX7_withdrawn_31 : decode cX7_withdrawn 31 = .ok (.ifCond .ne 5, 3) := by decide +kernel
theorem dX7_withdrawn_34 : decode cX7_withdrawn 34 = .ok (.iconst (-1), 1) := by decide +kernel
theorem dX7_withdrawn_35 : decode cX7_withdrawn 35 = .ok (.ireturn, 1) := by decide +kernel
theorem dX7_withdrawn_36 : decode cX7_withdrawn 36 = .ok (.aload_n 0, 1) := by decide +kernel
theorem dX7_withdrawn_37 : decode cX7_withdrawn 37 = .ok (.iload_n 1, 1) := by decide +kernel
theorem dX7_withdrawn_38 : decode cX7_withdrawn 38 = .ok (.iload_n 2, 1) := by decide +kernel
theorem dX7_withdrawn_39 : decode cX7_withdrawn 39 = .ok (.invokevirtual 149, 3) := by decide +kernel
theorem dX7_withdrawn_42 : decode cX7_withdrawn 42 = .ok (.iload_n 3, 1) := by decide +kernel
theorem dX7_withdrawn_43 : decode cX7_withdrawn 43 = .ok (.iload 4, 2) := by decide +kernel
theorem dX7_withdrawn_45 : decode cX7_withdrawn 45 = .ok (.invokevirtual 164, 3) := by decide +kernel
theorem dX7_withdrawn_48 : decode cX7_withdrawn 48 = .ok (.ireturn, 1) := by decide +kernel
theorem dX7_winners_0 : decode cX7_winners 0 = .ok (.aload_n 0, 1) := by decide +kernel
theorem dX7_winners_1 : decode cX7_winners 1 = .ok (.aload_n 0, 1) := by decide +kernel
theorem dX7_winners_2 : decode cX7_winners 2 = .ok (.getfield 89, 3) := by decide +kernel
theorem dX7_winners_5 : decode cX7_winners 5 = .ok (.aload_n 0, 1) := by decide +kernel
theorem dX7_winners_6 : decode cX7_winners 6 = .ok (.iload_n 1, 1) := by decide +kernel
theorem dX7_winners_7 : decode cX7_winners 7 = .ok (.iload_n 2, 1) := by decide +kernel
theorem dX7_winners_8 : decode cX7_winners 8 = .ok (.invokevirtual 139, 3) := by decide +kernel
theorem dX7_winners_11 : decode cX7_winners 11 = .ok (.ifCond .eq 14, 3) := by decide +kernel
theorem dX7_winners_14 : decode cX7_winners 14 = .ok (.iload_n 3, 1) := by decide +kernel
theorem dX7_winners_15 : decode cX7_winners 15 = .ok (.invokestatic 142, 3) := by decide +kernel
theorem dX7_winners_18 : decode cX7_winners 18 = .ok (.ifCond .eq 7, 3) := by decide +kernel
theorem dX7_winners_21 : decode cX7_winners 21 = .ok (.iconst 1, 1) := by decide +kernel
theorem dX7_winners_22 : decode cX7_winners 22 = .ok (.goto 4, 3) := by decide +kernel
theorem dX7_winners_25 : decode cX7_winners 25 = .ok (.iconst 0, 1) := by decide +kernel
theorem dX7_winners_26 : decode cX7_winners 26 = .ok (.invokevirtual 145, 3) := by decide +kernel
theorem dX7_winners_29 : decode cX7_winners 29 = .ok (.ifCond .ne 5, 3) := by decide +kernel
theorem dX7_winners_32 : decode cX7_winners 32 = .ok (.iconst (-1), 1) := by decide +kernel
theorem dX7_winners_33 : decode cX7_winners 33 = .ok (.ireturn, 1) := by decide +kernel
theorem dX7_winners_34 : decode cX7_winners 34 = .ok (.aload_n 0, 1) := by decide +kernel
theorem dX7_winners_35 : decode cX7_winners 35 = .ok (.iload_n 1, 1) := by decide +kernel
theorem dX7_winners_36 : decode cX7_winners 36 = .ok (.iload_n 2, 1) := by decide +kernel
theorem dX7_winners_37 : decode cX7_winners 37 = .ok (.invokevirtual 149, 3) := by decide +kernel
theorem dX7_winners_40 : decode cX7_winners 40 = .ok (.iload_n 3, 1) := by decide +kernel
theorem dX7_winners_41 : decode cX7_winners 41 = .ok (.invokevirtual 167, 3) := by decide +kernel
theorem dX7_winners_44 : decode cX7_winners 44 = .ok (.ireturn, 1) := by decide +kernel
theorem dX7_settles_0 : decode cX7_settles 0 = .ok (.aload_n 0, 1) := by decide +kernel
theorem dX7_settles_1 : decode cX7_settles 1 = .ok (.aload_n 0, 1) := by decide +kernel
theorem dX7_settles_2 : decode cX7_settles 2 = .ok (.getfield 89, 3) := by decide +kernel
theorem dX7_settles_5 : decode cX7_settles 5 = .ok (.aload_n 0, 1) := by decide +kernel
theorem dX7_settles_6 : decode cX7_settles 6 = .ok (.iload_n 1, 1) := by decide +kernel
theorem dX7_settles_7 : decode cX7_settles 7 = .ok (.iload_n 2, 1) := by decide +kernel
theorem dX7_settles_8 : decode cX7_settles 8 = .ok (.invokevirtual 139, 3) := by decide +kernel
theorem dX7_settles_11 : decode cX7_settles 11 = .ok (.invokevirtual 145, 3) := by decide +kernel
theorem dX7_settles_14 : decode cX7_settles 14 = .ok (.ifCond .ne 5, 3) := by decide +kernel
theorem dX7_settles_17 : decode cX7_settles 17 = .ok (.iconst (-1), 1) := by decide +kernel
theorem dX7_settles_18 : decode cX7_settles 18 = .ok (.ireturn, 1) := by decide +kernel
theorem dX7_settles_19 : decode cX7_settles 19 = .ok (.aload_n 0, 1) := by decide +kernel
theorem dX7_settles_20 : decode cX7_settles 20 = .ok (.iload_n 1, 1) := by decide +kernel
theorem dX7_settles_21 : decode cX7_settles 21 = .ok (.iload_n 2, 1) := by decide +kernel
theorem dX7_settles_22 : decode cX7_settles 22 = .ok (.invokevirtual 149, 3) := by decide +kernel
theorem dX7_settles_25 : decode cX7_settles 25 = .ok (.getfield 170, 3) := by decide +kernel
theorem dX7_settles_28 : decode cX7_settles 28 = .ok (.ireturn, 1) := by decide +kernel
theorem dX7_sure_0 : decode cX7_sure 0 = .ok (.aload_n 0, 1) := by decide +kernel
theorem dX7_sure_1 : decode cX7_sure 1 = .ok (.aload_n 0, 1) := by decide +kernel
theorem dX7_sure_2 : decode cX7_sure 2 = .ok (.getfield 89, 3) := by decide +kernel
theorem dX7_sure_5 : decode cX7_sure 5 = .ok (.aload_n 0, 1) := by decide +kernel
theorem dX7_sure_6 : decode cX7_sure 6 = .ok (.iload_n 1, 1) := by decide +kernel
theorem dX7_sure_7 : decode cX7_sure 7 = .ok (.iload_n 2, 1) := by decide +kernel
theorem dX7_sure_8 : decode cX7_sure 8 = .ok (.invokevirtual 139, 3) := by decide +kernel
theorem dX7_sure_11 : decode cX7_sure 11 = .ok (.invokevirtual 145, 3) := by decide +kernel
theorem dX7_sure_14 : decode cX7_sure 14 = .ok (.ifCond .ne 5, 3) := by decide +kernel
theorem dX7_sure_17 : decode cX7_sure 17 = .ok (.iconst (-1), 1) := by decide +kernel
theorem dX7_sure_18 : decode cX7_sure 18 = .ok (.ireturn, 1) := by decide +kernel
theorem dX7_sure_19 : decode cX7_sure 19 = .ok (.aload_n 0, 1) := by decide +kernel
theorem dX7_sure_20 : decode cX7_sure 20 = .ok (.iload_n 1, 1) := by decide +kernel
theorem dX7_sure_21 : decode cX7_sure 21 = .ok (.iload_n 2, 1) := by decide +kernel
theorem dX7_sure_22 : decode cX7_sure 22 = .ok (.invokevirtual 149, 3) := by decide +kernel
theorem dX7_sure_25 : decode cX7_sure 25 = .ok (.invokevirtual 173, 3) := by decide +kernel
theorem dX7_sure_28 : decode cX7_sure 28 = .ok (.ireturn, 1) := by decide +kernel
theorem dX7_right_0 : decode cX7_right 0 = .ok (.aload_n 0, 1) := by decide +kernel
theorem dX7_right_1 : decode cX7_right 1 = .ok (.aload_n 0, 1) := by decide +kernel
theorem dX7_right_2 : decode cX7_right 2 = .ok (.getfield 89, 3) := by decide +kernel
theorem dX7_right_5 : decode cX7_right 5 = .ok (.aload_n 0, 1) := by decide +kernel
theorem dX7_right_6 : decode cX7_right 6 = .ok (.iload_n 1, 1) := by decide +kernel
theorem dX7_right_7 : decode cX7_right 7 = .ok (.iload_n 2, 1) := by decide +kernel
theorem dX7_right_8 : decode cX7_right 8 = .ok (.invokevirtual 139, 3) := by decide +kernel
theorem dX7_right_11 : decode cX7_right 11 = .ok (.invokevirtual 145, 3) := by decide +kernel
theorem dX7_right_14 : decode cX7_right 14 = .ok (.ifCond .ne 5, 3) := by decide +kernel
theorem dX7_right_17 : decode cX7_right 17 = .ok (.iconst (-1), 1) := by decide +kernel
theorem dX7_right_18 : decode cX7_right 18 = .ok (.ireturn, 1) := by decide +kernel
theorem dX7_right_19 : decode cX7_right 19 = .ok (.aload_n 0, 1) := by decide +kernel
theorem dX7_right_20 : decode cX7_right 20 = .ok (.iload_n 1, 1) := by decide +kernel
theorem dX7_right_21 : decode cX7_right 21 = .ok (.invokevirtual 177, 3) := by decide +kernel
theorem dX7_right_24 : decode cX7_right 24 = .ok (.iload_n 2, 1) := by decide +kernel
theorem dX7_right_25 : decode cX7_right 25 = .ok (.invokevirtual 181, 3) := by decide +kernel
theorem dX7_right_28 : decode cX7_right 28 = .ok (.ireturn, 1) := by decide +kernel
theorem dX7_dips_0 : decode cX7_dips 0 = .ok (.aload_n 0, 1) := by decide +kernel
theorem dX7_dips_1 : decode cX7_dips 1 = .ok (.aload_n 0, 1) := by decide +kernel
theorem dX7_dips_2 : decode cX7_dips 2 = .ok (.getfield 89, 3) := by decide +kernel
theorem dX7_dips_5 : decode cX7_dips 5 = .ok (.aload_n 0, 1) := by decide +kernel
theorem dX7_dips_6 : decode cX7_dips 6 = .ok (.iload_n 1, 1) := by decide +kernel
theorem dX7_dips_7 : decode cX7_dips 7 = .ok (.iload_n 2, 1) := by decide +kernel
theorem dX7_dips_8 : decode cX7_dips 8 = .ok (.invokevirtual 139, 3) := by decide +kernel
theorem dX7_dips_11 : decode cX7_dips 11 = .ok (.invokevirtual 145, 3) := by decide +kernel
theorem dX7_dips_14 : decode cX7_dips 14 = .ok (.ifCond .ne 5, 3) := by decide +kernel
theorem dX7_dips_17 : decode cX7_dips 17 = .ok (.iconst (-1), 1) := by decide +kernel
theorem dX7_dips_18 : decode cX7_dips 18 = .ok (.ireturn, 1) := by decide +kernel
theorem dX7_dips_19 : decode cX7_dips 19 = .ok (.aload_n 0, 1) := by decide +kernel
theorem dX7_dips_20 : decode cX7_dips 20 = .ok (.iload_n 1, 1) := by decide +kernel
theorem dX7_dips_21 : decode cX7_dips 21 = .ok (.iload_n 2, 1) := by decide +kernel
theorem dX7_dips_22 : decode cX7_dips 22 = .ok (.invokevirtual 149, 3) := by decide +kernel
theorem dX7_dips_25 : decode cX7_dips 25 = .ok (.getfield 184, 3) := by decide +kernel
theorem dX7_dips_28 : decode cX7_dips 28 = .ok (.ireturn, 1) := by decide +kernel
theorem dX7_faulty_0 : decode cX7_faulty 0 = .ok (.aload_n 0, 1) := by decide +kernel
theorem dX7_faulty_1 : decode cX7_faulty 1 = .ok (.aload_n 0, 1) := by decide +kernel
theorem dX7_faulty_2 : decode cX7_faulty 2 = .ok (.getfield 89, 3) := by decide +kernel
theorem dX7_faulty_5 : decode cX7_faulty 5 = .ok (.aload_n 0, 1) := by decide +kernel
theorem dX7_faulty_6 : decode cX7_faulty 6 = .ok (.iload_n 1, 1) := by decide +kernel
theorem dX7_faulty_7 : decode cX7_faulty 7 = .ok (.iload_n 2, 1) := by decide +kernel
theorem dX7_faulty_8 : decode cX7_faulty 8 = .ok (.invokevirtual 139, 3) := by decide +kernel
theorem dX7_faulty_11 : decode cX7_faulty 11 = .ok (.ifCond .eq 14, 3) := by decide +kernel
theorem dX7_faulty_14 : decode cX7_faulty 14 = .ok (.iload_n 3, 1) := by decide +kernel
theorem dX7_faulty_15 : decode cX7_faulty 15 = .ok (.invokestatic 142, 3) := by decide +kernel
theorem dX7_faulty_18 : decode cX7_faulty 18 = .ok (.ifCond .eq 7, 3) := by decide +kernel
theorem dX7_faulty_21 : decode cX7_faulty 21 = .ok (.iconst 1, 1) := by decide +kernel
theorem dX7_faulty_22 : decode cX7_faulty 22 = .ok (.goto 4, 3) := by decide +kernel
theorem dX7_faulty_25 : decode cX7_faulty 25 = .ok (.iconst 0, 1) := by decide +kernel
theorem dX7_faulty_26 : decode cX7_faulty 26 = .ok (.invokevirtual 145, 3) := by decide +kernel
theorem dX7_faulty_29 : decode cX7_faulty 29 = .ok (.ifCond .ne 5, 3) := by decide +kernel
theorem dX7_faulty_32 : decode cX7_faulty 32 = .ok (.iconst (-1), 1) := by decide +kernel
theorem dX7_faulty_33 : decode cX7_faulty 33 = .ok (.ireturn, 1) := by decide +kernel
theorem dX7_faulty_34 : decode cX7_faulty 34 = .ok (.aload_n 0, 1) := by decide +kernel
theorem dX7_faulty_35 : decode cX7_faulty 35 = .ok (.iload_n 1, 1) := by decide +kernel
theorem dX7_faulty_36 : decode cX7_faulty 36 = .ok (.iload_n 2, 1) := by decide +kernel
theorem dX7_faulty_37 : decode cX7_faulty 37 = .ok (.invokevirtual 149, 3) := by decide +kernel
theorem dX7_faulty_40 : decode cX7_faulty 40 = .ok (.iload_n 3, 1) := by decide +kernel
theorem dX7_faulty_41 : decode cX7_faulty 41 = .ok (.invokevirtual 187, 3) := by decide +kernel
theorem dX7_faulty_44 : decode cX7_faulty 44 = .ok (.ifCond .eq 7, 3) := by decide +kernel
theorem dX7_faulty_47 : decode cX7_faulty 47 = .ok (.iconst 1, 1) := by decide +kernel
theorem dX7_faulty_48 : decode cX7_faulty 48 = .ok (.goto 4, 3) := by decide +kernel
theorem dX7_faulty_51 : decode cX7_faulty 51 = .ok (.iconst 0, 1) := by decide +kernel
theorem dX7_faulty_52 : decode cX7_faulty 52 = .ok (.ireturn, 1) := by decide +kernel
theorem dX7_edges_0 : decode cX7_edges 0 = .ok (.aload_n 0, 1) := by decide +kernel
theorem dX7_edges_1 : decode cX7_edges 1 = .ok (.aload_n 0, 1) := by decide +kernel
theorem dX7_edges_2 : decode cX7_edges 2 = .ok (.iload_n 3, 1) := by decide +kernel
theorem dX7_edges_3 : decode cX7_edges 3 = .ok (.invokevirtual 115, 3) := by decide +kernel
theorem dX7_edges_6 : decode cX7_edges 6 = .ok (.ifCond .eq 17, 3) := by decide +kernel
theorem dX7_edges_9 : decode cX7_edges 9 = .ok (.iload 4, 2) := by decide +kernel
theorem dX7_edges_11 : decode cX7_edges 11 = .ok (.bipush 6, 2) := by decide +kernel
theorem dX7_edges_13 : decode cX7_edges 13 = .ok (.invokestatic 105, 3) := by decide +kernel
theorem dX7_edges_16 : decode cX7_edges 16 = .ok (.ifCond .eq 7, 3) := by decide +kernel
theorem dX7_edges_19 : decode cX7_edges 19 = .ok (.iconst 1, 1) := by decide +kernel
theorem dX7_edges_20 : decode cX7_edges 20 = .ok (.goto 4, 3) := by decide +kernel
theorem dX7_edges_23 : decode cX7_edges 23 = .ok (.iconst 0, 1) := by decide +kernel
theorem dX7_edges_24 : decode cX7_edges 24 = .ok (.aload_n 0, 1) := by decide +kernel
theorem dX7_edges_25 : decode cX7_edges 25 = .ok (.iload_n 1, 1) := by decide +kernel
theorem dX7_edges_26 : decode cX7_edges 26 = .ok (.iload_n 2, 1) := by decide +kernel
theorem dX7_edges_27 : decode cX7_edges 27 = .ok (.invokevirtual 139, 3) := by decide +kernel
theorem dX7_edges_30 : decode cX7_edges 30 = .ok (.invokevirtual 145, 3) := by decide +kernel
theorem dX7_edges_33 : decode cX7_edges 33 = .ok (.ifCond .ne 5, 3) := by decide +kernel
theorem dX7_edges_36 : decode cX7_edges 36 = .ok (.iconst (-1), 1) := by decide +kernel
theorem dX7_edges_37 : decode cX7_edges 37 = .ok (.ireturn, 1) := by decide +kernel
theorem dX7_edges_38 : decode cX7_edges 38 = .ok (.aload_n 0, 1) := by decide +kernel
theorem dX7_edges_39 : decode cX7_edges 39 = .ok (.iload_n 1, 1) := by decide +kernel
theorem dX7_edges_40 : decode cX7_edges 40 = .ok (.iload_n 2, 1) := by decide +kernel
theorem dX7_edges_41 : decode cX7_edges 41 = .ok (.invokevirtual 149, 3) := by decide +kernel
theorem dX7_edges_44 : decode cX7_edges 44 = .ok (.iload_n 3, 1) := by decide +kernel
theorem dX7_edges_45 : decode cX7_edges 45 = .ok (.iload 4, 2) := by decide +kernel
theorem dX7_edges_47 : decode cX7_edges 47 = .ok (.invokevirtual 190, 3) := by decide +kernel
theorem dX7_edges_50 : decode cX7_edges 50 = .ok (.ireturn, 1) := by decide +kernel
theorem dX7_filters_0 : decode cX7_filters 0 = .ok (.aload_n 0, 1) := by decide +kernel
theorem dX7_filters_1 : decode cX7_filters 1 = .ok (.aload_n 0, 1) := by decide +kernel
theorem dX7_filters_2 : decode cX7_filters 2 = .ok (.getfield 89, 3) := by decide +kernel
theorem dX7_filters_5 : decode cX7_filters 5 = .ok (.aload_n 0, 1) := by decide +kernel
theorem dX7_filters_6 : decode cX7_filters 6 = .ok (.iload_n 1, 1) := by decide +kernel
theorem dX7_filters_7 : decode cX7_filters 7 = .ok (.iload_n 2, 1) := by decide +kernel
theorem dX7_filters_8 : decode cX7_filters 8 = .ok (.invokevirtual 139, 3) := by decide +kernel
theorem dX7_filters_11 : decode cX7_filters 11 = .ok (.invokevirtual 145, 3) := by decide +kernel
theorem dX7_filters_14 : decode cX7_filters 14 = .ok (.ifCond .ne 5, 3) := by decide +kernel
theorem dX7_filters_17 : decode cX7_filters 17 = .ok (.iconst (-1), 1) := by decide +kernel
theorem dX7_filters_18 : decode cX7_filters 18 = .ok (.ireturn, 1) := by decide +kernel
theorem dX7_filters_19 : decode cX7_filters 19 = .ok (.aload_n 0, 1) := by decide +kernel
theorem dX7_filters_20 : decode cX7_filters 20 = .ok (.iload_n 1, 1) := by decide +kernel
theorem dX7_filters_21 : decode cX7_filters 21 = .ok (.invokevirtual 177, 3) := by decide +kernel
theorem dX7_filters_24 : decode cX7_filters 24 = .ok (.astore_n 3, 1) := by decide +kernel
theorem dX7_filters_25 : decode cX7_filters 25 = .ok (.iconst 0, 1) := by decide +kernel
theorem dX7_filters_26 : decode cX7_filters 26 = .ok (.istore 4, 2) := by decide +kernel
theorem dX7_filters_28 : decode cX7_filters 28 = .ok (.iload 4, 2) := by decide +kernel
theorem dX7_filters_30 : decode cX7_filters 30 = .ok (.bipush 20, 2) := by decide +kernel
theorem dX7_filters_32 : decode cX7_filters 32 = .ok (.if_icmp .gt 47, 3) := by decide +kernel
theorem dX7_filters_35 : decode cX7_filters 35 = .ok (.aload_n 3, 1) := by decide +kernel
theorem dX7_filters_36 : decode cX7_filters 36 = .ok (.iload_n 2, 1) := by decide +kernel
theorem dX7_filters_37 : decode cX7_filters 37 = .ok (.iload 4, 2) := by decide +kernel
theorem dX7_filters_39 : decode cX7_filters 39 = .ok (.sipush 400, 3) := by decide +kernel
theorem dX7_filters_42 : decode cX7_filters 42 = .ok (.invokevirtual 193, 3) := by decide +kernel
theorem dX7_filters_45 : decode cX7_filters 45 = .ok (.aload_n 3, 1) := by decide +kernel
theorem dX7_filters_46 : decode cX7_filters 46 = .ok (.invokevirtual 173, 3) := by decide +kernel
theorem dX7_filters_49 : decode cX7_filters 49 = .ok (.istore 5, 2) := by decide +kernel
theorem dX7_filters_51 : decode cX7_filters 51 = .ok (.iload 5, 2) := by decide +kernel
theorem dX7_filters_53 : decode cX7_filters 53 = .ok (.bipush (-2), 2) := by decide +kernel
theorem dX7_filters_55 : decode cX7_filters 55 = .ok (.if_icmp .eq 18, 3) := by decide +kernel
theorem dX7_filters_58 : decode cX7_filters 58 = .ok (.iload 5, 2) := by decide +kernel
theorem dX7_filters_60 : decode cX7_filters 60 = .ok (.aload_n 0, 1) := by decide +kernel
theorem dX7_filters_61 : decode cX7_filters 61 = .ok (.getfield 48, 3) := by decide +kernel
theorem dX7_filters_64 : decode cX7_filters 64 = .ok (.getfield 197, 3) := by decide +kernel
theorem dX7_filters_67 : decode cX7_filters 67 = .ok (.if_icmp .gt 6, 3) := by decide +kernel
theorem dX7_filters_70 : decode cX7_filters 70 = .ok (.iload 4, 2) := by decide +kernel
theorem dX7_filters_72 : decode cX7_filters 72 = .ok (.ireturn, 1) := by decide +kernel
theorem dX7_filters_73 : decode cX7_filters 73 = .ok (.iinc 4 1, 3) := by decide +kernel
theorem dX7_filters_76 : decode cX7_filters 76 = .ok (.goto (-48), 3) := by decide +kernel
theorem dX7_filters_79 : decode cX7_filters 79 = .ok (.bipush (-2), 2) := by decide +kernel
theorem dX7_filters_81 : decode cX7_filters 81 = .ok (.ireturn, 1) := by decide +kernel
theorem dX7_slowest_0 : decode cX7_slowest 0 = .ok (.aload_n 0, 1) := by decide +kernel
theorem dX7_slowest_1 : decode cX7_slowest 1 = .ok (.aload_n 0, 1) := by decide +kernel
theorem dX7_slowest_2 : decode cX7_slowest 2 = .ok (.getfield 89, 3) := by decide +kernel
theorem dX7_slowest_5 : decode cX7_slowest 5 = .ok (.iload_n 1, 1) := by decide +kernel
theorem dX7_slowest_6 : decode cX7_slowest 6 = .ok (.invokestatic 128, 3) := by decide +kernel
theorem dX7_slowest_9 : decode cX7_slowest 9 = .ok (.invokevirtual 145, 3) := by decide +kernel
theorem dX7_slowest_12 : decode cX7_slowest 12 = .ok (.ifCond .ne 5, 3) := by decide +kernel
theorem dX7_slowest_15 : decode cX7_slowest 15 = .ok (.iconst (-1), 1) := by decide +kernel
theorem dX7_slowest_16 : decode cX7_slowest 16 = .ok (.ireturn, 1) := by decide +kernel
theorem dX7_slowest_17 : decode cX7_slowest 17 = .ok (.aload_n 0, 1) := by decide +kernel
theorem dX7_slowest_18 : decode cX7_slowest 18 = .ok (.iload_n 1, 1) := by decide +kernel
theorem dX7_slowest_19 : decode cX7_slowest 19 = .ok (.invokevirtual 177, 3) := by decide +kernel
theorem dX7_slowest_22 : decode cX7_slowest 22 = .ok (.astore_n 2, 1) := by decide +kernel
theorem dX7_slowest_23 : decode cX7_slowest 23 = .ok (.iconst 1, 1) := by decide +kernel
theorem dX7_slowest_24 : decode cX7_slowest 24 = .ok (.istore_n 3, 1) := by decide +kernel
theorem dX7_slowest_25 : decode cX7_slowest 25 = .ok (.iconst (-1), 1) := by decide +kernel
theorem dX7_slowest_26 : decode cX7_slowest 26 = .ok (.istore 4, 2) := by decide +kernel
theorem dX7_slowest_28 : decode cX7_slowest 28 = .ok (.iconst 1, 1) := by decide +kernel
theorem dX7_slowest_29 : decode cX7_slowest 29 = .ok (.istore 5, 2) := by decide +kernel
theorem dX7_slowest_31 : decode cX7_slowest 31 = .ok (.iload 5, 2) := by decide +kernel
theorem dX7_slowest_33 : decode cX7_slowest 33 = .ok (.aload_n 0, 1) := by decide +kernel
theorem dX7_slowest_34 : decode cX7_slowest 34 = .ok (.getfield 48, 3) := by decide +kernel
theorem dX7_slowest_37 : decode cX7_slowest 37 = .ok (.invokevirtual 200, 3) := by decide +kernel
theorem dX7_slowest_40 : decode cX7_slowest 40 = .ok (.if_icmp .ge 43, 3) := by decide +kernel
theorem dX7_slowest_43 : decode cX7_slowest 43 = .ok (.aload_n 2, 1) := by decide +kernel
theorem dX7_slowest_44 : decode cX7_slowest 44 = .ok (.iload 5, 2) := by decide +kernel
theorem dX7_slowest_46 : decode cX7_slowest 46 = .ok (.aload_n 0, 1) := by decide +kernel
theorem dX7_slowest_47 : decode cX7_slowest 47 = .ok (.getfield 48, 3) := by decide +kernel
theorem dX7_slowest_50 : decode cX7_slowest 50 = .ok (.getfield 203, 3) := by decide +kernel
theorem dX7_slowest_53 : decode cX7_slowest 53 = .ok (.sipush 400, 3) := by decide +kernel
theorem dX7_slowest_56 : decode cX7_slowest 56 = .ok (.invokevirtual 193, 3) := by decide +kernel
theorem dX7_slowest_59 : decode cX7_slowest 59 = .ok (.aload_n 2, 1) := by decide +kernel
theorem dX7_slowest_60 : decode cX7_slowest 60 = .ok (.getfield 170, 3) := by decide +kernel
theorem dX7_slowest_63 : decode cX7_slowest 63 = .ok (.iload 4, 2) := by decide +kernel
theorem dX7_slowest_65 : decode cX7_slowest 65 = .ok (.if_icmp .le 12, 3) := by decide +kernel
theorem dX7_slowest_68 : decode cX7_slowest 68 = .ok (.aload_n 2, 1) := by decide +kernel
theorem dX7_slowest_69 : decode cX7_slowest 69 = .ok (.getfield 170, 3) := by decide +kernel
theorem dX7_slowest_72 : decode cX7_slowest 72 = .ok (.istore 4, 2) := by decide +kernel
theorem dX7_slowest_74 : decode cX7_slowest 74 = .ok (.iload 5, 2) := by decide +kernel
theorem dX7_slowest_76 : decode cX7_slowest 76 = .ok (.istore_n 3, 1) := by decide +kernel
theorem dX7_slowest_77 : decode cX7_slowest 77 = .ok (.iinc 5 1, 3) := by decide +kernel
theorem dX7_slowest_80 : decode cX7_slowest 80 = .ok (.goto (-49), 3) := by decide +kernel
theorem dX7_slowest_83 : decode cX7_slowest 83 = .ok (.iload_n 3, 1) := by decide +kernel
theorem dX7_slowest_84 : decode cX7_slowest 84 = .ok (.ireturn, 1) := by decide +kernel
theorem dX7_settled_0 : decode cX7_settled 0 = .ok (.aload_n 0, 1) := by decide +kernel
theorem dX7_settled_1 : decode cX7_settled 1 = .ok (.aload_n 0, 1) := by decide +kernel
theorem dX7_settled_2 : decode cX7_settled 2 = .ok (.getfield 89, 3) := by decide +kernel
theorem dX7_settled_5 : decode cX7_settled 5 = .ok (.iload_n 1, 1) := by decide +kernel
theorem dX7_settled_6 : decode cX7_settled 6 = .ok (.invokestatic 128, 3) := by decide +kernel
theorem dX7_settled_9 : decode cX7_settled 9 = .ok (.ifCond .eq 14, 3) := by decide +kernel
