theorem dX7_settled_12 : decode cX7_settled 12 = .ok (.iload_n 2, 1) := by decide +kernel
theorem dX7_settled_13 : decode cX7_settled 13 = .ok (.invokestatic 142, 3) := by decide +kernel
theorem dX7_settled_16 : decode cX7_settled 16 = .ok (.ifCond .eq 7, 3) := by decide +kernel
theorem dX7_settled_19 : decode cX7_settled 19 = .ok (.iconst 1, 1) := by decide +kernel
theorem dX7_settled_20 : decode cX7_settled 20 = .ok (.goto 4, 3) := by decide +kernel
theorem dX7_settled_23 : decode cX7_settled 23 = .ok (.iconst 0, 1) := by decide +kernel
theorem dX7_settled_24 : decode cX7_settled 24 = .ok (.invokevirtual 145, 3) := by decide +kernel
theorem dX7_settled_27 : decode cX7_settled 27 = .ok (.ifCond .ne 5, 3) := by decide +kernel
theorem dX7_settled_30 : decode cX7_settled 30 = .ok (.iconst (-1), 1) := by decide +kernel
theorem dX7_settled_31 : decode cX7_settled 31 = .ok (.ireturn, 1) := by decide +kernel
theorem dX7_settled_32 : decode cX7_settled 32 = .ok (.aload_n 0, 1) := by decide +kernel
theorem dX7_settled_33 : decode cX7_settled 33 = .ok (.iload_n 1, 1) := by decide +kernel
theorem dX7_settled_34 : decode cX7_settled 34 = .ok (.invokevirtual 177, 3) := by decide +kernel
theorem dX7_settled_37 : decode cX7_settled 37 = .ok (.astore_n 3, 1) := by decide +kernel
theorem dX7_settled_38 : decode cX7_settled 38 = .ok (.iconst 0, 1) := by decide +kernel
theorem dX7_settled_39 : decode cX7_settled 39 = .ok (.istore 4, 2) := by decide +kernel
theorem dX7_settled_41 : decode cX7_settled 41 = .ok (.iconst 1, 1) := by decide +kernel
theorem dX7_settled_42 : decode cX7_settled 42 = .ok (.istore 5, 2) := by decide +kernel
theorem dX7_settled_44 : decode cX7_settled 44 = .ok (.iload 5, 2) := by decide +kernel
theorem dX7_settled_46 : decode cX7_settled 46 = .ok (.aload_n 0, 1) := by decide +kernel
theorem dX7_settled_47 : decode cX7_settled 47 = .ok (.getfield 48, 3) := by decide +kernel
theorem dX7_settled_50 : decode cX7_settled 50 = .ok (.invokevirtual 200, 3) := by decide +kernel
theorem dX7_settled_53 : decode cX7_settled 53 = .ok (.if_icmp .ge 36, 3) := by decide +kernel
theorem dX7_settled_56 : decode cX7_settled 56 = .ok (.aload_n 3, 1) := by decide +kernel
theorem dX7_settled_57 : decode cX7_settled 57 = .ok (.iload 5, 2) := by decide +kernel
theorem dX7_settled_59 : decode cX7_settled 59 = .ok (.aload_n 0, 1) := by decide +kernel
theorem dX7_settled_60 : decode cX7_settled 60 = .ok (.getfield 48, 3) := by decide +kernel
theorem dX7_settled_63 : decode cX7_settled 63 = .ok (.getfield 203, 3) := by decide +kernel
theorem dX7_settled_66 : decode cX7_settled 66 = .ok (.sipush 400, 3) := by decide +kernel
theorem dX7_settled_69 : decode cX7_settled 69 = .ok (.invokevirtual 193, 3) := by decide +kernel
theorem dX7_settled_72 : decode cX7_settled 72 = .ok (.aload_n 3, 1) := by decide +kernel
theorem dX7_settled_73 : decode cX7_settled 73 = .ok (.getfield 170, 3) := by decide +kernel
theorem dX7_settled_76 : decode cX7_settled 76 = .ok (.iload_n 2, 1) := by decide +kernel
theorem dX7_settled_77 : decode cX7_settled 77 = .ok (.if_icmp .gt 6, 3) := by decide +kernel
theorem dX7_settled_80 : decode cX7_settled 80 = .ok (.iinc 4 1, 3) := by decide +kernel
theorem dX7_settled_83 : decode cX7_settled 83 = .ok (.iinc 5 1, 3) := by decide +kernel
theorem dX7_settled_86 : decode cX7_settled 86 = .ok (.goto (-42), 3) := by decide +kernel
theorem dX7_settled_89 : decode cX7_settled 89 = .ok (.iload 4, 2) := by decide +kernel
theorem dX7_settled_91 : decode cX7_settled 91 = .ok (.ireturn, 1) := by decide +kernel
theorem dX7_enough_0 : decode cX7_enough 0 = .ok (.aload_n 0, 1) := by decide +kernel
theorem dX7_enough_1 : decode cX7_enough 1 = .ok (.aload_n 0, 1) := by decide +kernel
theorem dX7_enough_2 : decode cX7_enough 2 = .ok (.getfield 89, 3) := by decide +kernel
theorem dX7_enough_5 : decode cX7_enough 5 = .ok (.iload_n 1, 1) := by decide +kernel
theorem dX7_enough_6 : decode cX7_enough 6 = .ok (.invokestatic 128, 3) := by decide +kernel
theorem dX7_enough_9 : decode cX7_enough 9 = .ok (.invokevirtual 145, 3) := by decide +kernel
theorem dX7_enough_12 : decode cX7_enough 12 = .ok (.ifCond .ne 5, 3) := by decide +kernel
theorem dX7_enough_15 : decode cX7_enough 15 = .ok (.iconst (-1), 1) := by decide +kernel
theorem dX7_enough_16 : decode cX7_enough 16 = .ok (.ireturn, 1) := by decide +kernel
theorem dX7_enough_17 : decode cX7_enough 17 = .ok (.aload_n 0, 1) := by decide +kernel
theorem dX7_enough_18 : decode cX7_enough 18 = .ok (.iload_n 1, 1) := by decide +kernel
theorem dX7_enough_19 : decode cX7_enough 19 = .ok (.invokevirtual 177, 3) := by decide +kernel
theorem dX7_enough_22 : decode cX7_enough 22 = .ok (.astore_n 2, 1) := by decide +kernel
theorem dX7_enough_23 : decode cX7_enough 23 = .ok (.iconst 0, 1) := by decide +kernel
theorem dX7_enough_24 : decode cX7_enough 24 = .ok (.istore_n 3, 1) := by decide +kernel
theorem dX7_enough_25 : decode cX7_enough 25 = .ok (.iconst 1, 1) := by decide +kernel
theorem dX7_enough_26 : decode cX7_enough 26 = .ok (.istore 4, 2) := by decide +kernel
theorem dX7_enough_28 : decode cX7_enough 28 = .ok (.iload 4, 2) := by decide +kernel
theorem dX7_enough_30 : decode cX7_enough 30 = .ok (.aload_n 0, 1) := by decide +kernel
theorem dX7_enough_31 : decode cX7_enough 31 = .ok (.getfield 48, 3) := by decide +kernel
theorem dX7_enough_34 : decode cX7_enough 34 = .ok (.invokevirtual 200, 3) := by decide +kernel
theorem dX7_enough_37 : decode cX7_enough 37 = .ok (.if_icmp .ge 48, 3) := by decide +kernel
theorem dX7_enough_40 : decode cX7_enough 40 = .ok (.aload_n 2, 1) := by decide +kernel
theorem dX7_enough_41 : decode cX7_enough 41 = .ok (.iload 4, 2) := by decide +kernel
theorem dX7_enough_43 : decode cX7_enough 43 = .ok (.aload_n 0, 1) := by decide +kernel
theorem dX7_enough_44 : decode cX7_enough 44 = .ok (.getfield 48, 3) := by decide +kernel
theorem dX7_enough_47 : decode cX7_enough 47 = .ok (.getfield 203, 3) := by decide +kernel
theorem dX7_enough_50 : decode cX7_enough 50 = .ok (.sipush 400, 3) := by decide +kernel
theorem dX7_enough_53 : decode cX7_enough 53 = .ok (.invokevirtual 193, 3) := by decide +kernel
theorem dX7_enough_56 : decode cX7_enough 56 = .ok (.aload_n 2, 1) := by decide +kernel
theorem dX7_enough_57 : decode cX7_enough 57 = .ok (.invokevirtual 173, 3) := by decide +kernel
theorem dX7_enough_60 : decode cX7_enough 60 = .ok (.istore 5, 2) := by decide +kernel
theorem dX7_enough_62 : decode cX7_enough 62 = .ok (.iload 5, 2) := by decide +kernel
theorem dX7_enough_64 : decode cX7_enough 64 = .ok (.bipush (-2), 2) := by decide +kernel
theorem dX7_enough_66 : decode cX7_enough 66 = .ok (.if_icmp .ne 6, 3) := by decide +kernel
theorem dX7_enough_69 : decode cX7_enough 69 = .ok (.bipush (-2), 2) := by decide +kernel
theorem dX7_enough_71 : decode cX7_enough 71 = .ok (.ireturn, 1) := by decide +kernel
theorem dX7_enough_72 : decode cX7_enough 72 = .ok (.iload_n 3, 1) := by decide +kernel
theorem dX7_enough_73 : decode cX7_enough 73 = .ok (.iload 5, 2) := by decide +kernel
theorem dX7_enough_75 : decode cX7_enough 75 = .ok (.invokestatic 206, 3) := by decide +kernel
theorem dX7_enough_78 : decode cX7_enough 78 = .ok (.istore_n 3, 1) := by decide +kernel
theorem dX7_enough_79 : decode cX7_enough 79 = .ok (.iinc 4 1, 3) := by decide +kernel
theorem dX7_enough_82 : decode cX7_enough 82 = .ok (.goto (-54), 3) := by decide +kernel
theorem dX7_enough_85 : decode cX7_enough 85 = .ok (.iload_n 3, 1) := by decide +kernel
theorem dX7_enough_86 : decode cX7_enough 86 = .ok (.ireturn, 1) := by decide +kernel
theorem dX7_would_0 : decode cX7_would 0 = .ok (.aload_n 0, 1) := by decide +kernel
theorem dX7_would_1 : decode cX7_would 1 = .ok (.aload_n 0, 1) := by decide +kernel
theorem dX7_would_2 : decode cX7_would 2 = .ok (.getfield 89, 3) := by decide +kernel
theorem dX7_would_5 : decode cX7_would 5 = .ok (.aload_n 0, 1) := by decide +kernel
theorem dX7_would_6 : decode cX7_would 6 = .ok (.iload_n 1, 1) := by decide +kernel
theorem dX7_would_7 : decode cX7_would 7 = .ok (.invokevirtual 211, 3) := by decide +kernel
theorem dX7_would_10 : decode cX7_would 10 = .ok (.invokevirtual 145, 3) := by decide +kernel
theorem dX7_would_13 : decode cX7_would 13 = .ok (.ifCond .ne 5, 3) := by decide +kernel
theorem dX7_would_16 : decode cX7_would 16 = .ok (.iconst (-1), 1) := by decide +kernel
theorem dX7_would_17 : decode cX7_would 17 = .ok (.ireturn, 1) := by decide +kernel
theorem dX7_would_18 : decode cX7_would 18 = .ok (.aload_n 0, 1) := by decide +kernel
theorem dX7_would_19 : decode cX7_would 19 = .ok (.getfield 28, 3) := by decide +kernel
theorem dX7_would_22 : decode cX7_would 22 = .ok (.aload_n 0, 1) := by decide +kernel
theorem dX7_would_23 : decode cX7_would 23 = .ok (.getfield 35, 3) := by decide +kernel
theorem dX7_would_26 : decode cX7_would 26 = .ok (.aload_n 0, 1) := by decide +kernel
theorem dX7_would_27 : decode cX7_would 27 = .ok (.getfield 35, 3) := by decide +kernel
theorem dX7_would_30 : decode cX7_would 30 = .ok (.invokevirtual 131, 3) := by decide +kernel
theorem dX7_would_33 : decode cX7_would 33 = .ok (.iload_n 1, 1) := by decide +kernel
theorem dX7_would_34 : decode cX7_would 34 = .ok (.invokevirtual 214, 3) := by decide +kernel
theorem dX7_would_37 : decode cX7_would 37 = .ok (.aload_n 0, 1) := by decide +kernel
theorem dX7_would_38 : decode cX7_would 38 = .ok (.getfield 28, 3) := by decide +kernel
theorem dX7_would_41 : decode cX7_would 41 = .ok (.getfield 218, 3) := by decide +kernel
theorem dX7_would_44 : decode cX7_would 44 = .ok (.ireturn, 1) := by decide +kernel
theorem dX7_now_0 : decode cX7_now 0 = .ok (.aload_n 0, 1) := by decide +kernel
theorem dX7_now_1 : decode cX7_now 1 = .ok (.getfield 89, 3) := by decide +kernel
theorem dX7_now_4 : decode cX7_now 4 = .ok (.ifCond .eq 12, 3) := by decide +kernel
theorem dX7_now_7 : decode cX7_now 7 = .ok (.iload_n 1, 1) := by decide +kernel
theorem dX7_now_8 : decode cX7_now 8 = .ok (.bipush 11, 2) := by decide +kernel
theorem dX7_now_10 : decode cX7_now 10 = .ok (.invokestatic 105, 3) := by decide +kernel
theorem dX7_now_13 : decode cX7_now 13 = .ok (.ifCond .ne 9, 3) := by decide +kernel
theorem dX7_now_16 : decode cX7_now 16 = .ok (.aload_n 0, 1) := by decide +kernel
theorem dX7_now_17 : decode cX7_now 17 = .ok (.iconst 1, 1) := by decide +kernel
theorem dX7_now_18 : decode cX7_now 18 = .ok (.invokevirtual 67, 3) := by decide +kernel
theorem dX7_now_21 : decode cX7_now 21 = .ok (.ireturn, 1) := by decide +kernel
theorem dX7_now_22 : decode cX7_now 22 = .ok (.aload_n 0, 1) := by decide +kernel
theorem dX7_now_23 : decode cX7_now 23 = .ok (.aload_n 0, 1) := by decide +kernel
theorem dX7_now_24 : decode cX7_now 24 = .ok (.getfield 35, 3) := by decide +kernel
theorem dX7_now_27 : decode cX7_now 27 = .ok (.iload_n 1, 1) := by decide +kernel
theorem dX7_now_28 : decode cX7_now 28 = .ok (.invokevirtual 221, 3) := by decide +kernel
theorem dX7_now_31 : decode cX7_now 31 = .ok (.invokevirtual 99, 3) := by decide +kernel
theorem dX7_now_34 : decode cX7_now 34 = .ok (.ireturn, 1) := by decide +kernel
theorem dX7_ledger_0 : decode cX7_ledger 0 = .ok (.aload_n 0, 1) := by decide +kernel
theorem dX7_ledger_1 : decode cX7_ledger 1 = .ok (.iload_n 1, 1) := by decide +kernel
theorem dX7_ledger_2 : decode cX7_ledger 2 = .ok (.invokevirtual 115, 3) := by decide +kernel
theorem dX7_ledger_5 : decode cX7_ledger 5 = .ok (.ifCond .eq 12, 3) := by decide +kernel
theorem dX7_ledger_8 : decode cX7_ledger 8 = .ok (.iload_n 2, 1) := by decide +kernel
theorem dX7_ledger_9 : decode cX7_ledger 9 = .ok (.bipush 6, 2) := by decide +kernel
theorem dX7_ledger_11 : decode cX7_ledger 11 = .ok (.invokestatic 105, 3) := by decide +kernel
theorem dX7_ledger_14 : decode cX7_ledger 14 = .ok (.ifCond .ne 9, 3) := by decide +kernel
theorem dX7_ledger_17 : decode cX7_ledger 17 = .ok (.aload_n 0, 1) := by decide +kernel
theorem dX7_ledger_18 : decode cX7_ledger 18 = .ok (.iconst 1, 1) := by decide +kernel
theorem dX7_ledger_19 : decode cX7_ledger 19 = .ok (.invokevirtual 67, 3) := by decide +kernel
theorem dX7_ledger_22 : decode cX7_ledger 22 = .ok (.ireturn, 1) := by decide +kernel
theorem dX7_ledger_23 : decode cX7_ledger 23 = .ok (.aload_n 0, 1) := by decide +kernel
theorem dX7_ledger_24 : decode cX7_ledger 24 = .ok (.aload_n 0, 1) := by decide +kernel
theorem dX7_ledger_25 : decode cX7_ledger 25 = .ok (.getfield 35, 3) := by decide +kernel
theorem dX7_ledger_28 : decode cX7_ledger 28 = .ok (.getfield 224, 3) := by decide +kernel
theorem dX7_ledger_31 : decode cX7_ledger 31 = .ok (.iload_n 1, 1) := by decide +kernel
theorem dX7_ledger_32 : decode cX7_ledger 32 = .ok (.iload_n 2, 1) := by decide +kernel
theorem dX7_ledger_33 : decode cX7_ledger 33 = .ok (.invokevirtual 228, 3) := by decide +kernel
theorem dX7_ledger_36 : decode cX7_ledger 36 = .ok (.invokevirtual 99, 3) := by decide +kernel
theorem dX7_ledger_39 : decode cX7_ledger 39 = .ok (.ireturn, 1) := by decide +kernel
theorem dX7_log_0 : decode cX7_log 0 = .ok (.aload_n 0, 1) := by decide +kernel
theorem dX7_log_1 : decode cX7_log 1 = .ok (.getfield 89, 3) := by decide +kernel
theorem dX7_log_4 : decode cX7_log 4 = .ok (.ifCond .eq 29, 3) := by decide +kernel
theorem dX7_log_7 : decode cX7_log 7 = .ok (.iload_n 1, 1) := by decide +kernel
theorem dX7_log_8 : decode cX7_log 8 = .ok (.aload_n 0, 1) := by decide +kernel
theorem dX7_log_9 : decode cX7_log 9 = .ok (.getfield 35, 3) := by decide +kernel
theorem dX7_log_12 : decode cX7_log 12 = .ok (.getfield 224, 3) := by decide +kernel
theorem dX7_log_15 : decode cX7_log 15 = .ok (.invokevirtual 233, 3) := by decide +kernel
theorem dX7_log_18 : decode cX7_log 18 = .ok (.invokestatic 105, 3) := by decide +kernel
theorem dX7_log_21 : decode cX7_log 21 = .ok (.ifCond .eq 12, 3) := by decide +kernel
theorem dX7_log_24 : decode cX7_log 24 = .ok (.iload_n 2, 1) := by decide +kernel
theorem dX7_log_25 : decode cX7_log 25 = .ok (.bipush 6, 2) := by decide +kernel
theorem dX7_log_27 : decode cX7_log 27 = .ok (.invokestatic 105, 3) := by decide +kernel
theorem dX7_log_30 : decode cX7_log 30 = .ok (.ifCond .ne 9, 3) := by decide +kernel
theorem dX7_log_33 : decode cX7_log 33 = .ok (.aload_n 0, 1) := by decide +kernel
theorem dX7_log_34 : decode cX7_log 34 = .ok (.iconst 1, 1) := by decide +kernel
theorem dX7_log_35 : decode cX7_log 35 = .ok (.invokevirtual 67, 3) := by decide +kernel
theorem dX7_log_38 : decode cX7_log 38 = .ok (.ireturn, 1) := by decide +kernel
theorem dX7_log_39 : decode cX7_log 39 = .ok (.aload_n 0, 1) := by decide +kernel
theorem dX7_log_40 : decode cX7_log 40 = .ok (.aload_n 0, 1) := by decide +kernel
theorem dX7_log_41 : decode cX7_log 41 = .ok (.getfield 35, 3) := by decide +kernel
theorem dX7_log_44 : decode cX7_log 44 = .ok (.getfield 224, 3) := by decide +kernel
theorem dX7_log_47 : decode cX7_log 47 = .ok (.iload_n 1, 1) := by decide +kernel
theorem dX7_log_48 : decode cX7_log 48 = .ok (.iload_n 2, 1) := by decide +kernel
theorem dX7_log_49 : decode cX7_log 49 = .ok (.invokevirtual 236, 3) := by decide +kernel
theorem dX7_log_52 : decode cX7_log 52 = .ok (.invokevirtual 99, 3) := by decide +kernel
theorem dX7_log_55 : decode cX7_log 55 = .ok (.ireturn, 1) := by decide +kernel
theorem dX7_past_0 : decode cX7_past 0 = .ok (.aload_n 0, 1) := by decide +kernel
theorem dX7_past_1 : decode cX7_past 1 = .ok (.aload_n 0, 1) := by decide +kernel
theorem dX7_past_2 : decode cX7_past 2 = .ok (.getfield 89, 3) := by decide +kernel
theorem dX7_past_5 : decode cX7_past 5 = .ok (.iload_n 1, 1) := by decide +kernel
theorem dX7_past_6 : decode cX7_past 6 = .ok (.bipush 64, 2) := by decide +kernel
theorem dX7_past_8 : decode cX7_past 8 = .ok (.invokestatic 105, 3) := by decide +kernel
theorem dX7_past_11 : decode cX7_past 11 = .ok (.invokevirtual 145, 3) := by decide +kernel
theorem dX7_past_14 : decode cX7_past 14 = .ok (.ifCond .ne 5, 3) := by decide +kernel
theorem dX7_past_17 : decode cX7_past 17 = .ok (.iconst (-1), 1) := by decide +kernel
theorem dX7_past_18 : decode cX7_past 18 = .ok (.ireturn, 1) := by decide +kernel
theorem dX7_past_19 : decode cX7_past 19 = .ok (.aload_n 0, 1) := by decide +kernel
theorem dX7_past_20 : decode cX7_past 20 = .ok (.getfield 35, 3) := by decide +kernel
theorem dX7_past_23 : decode cX7_past 23 = .ok (.getfield 224, 3) := by decide +kernel
theorem dX7_past_26 : decode cX7_past 26 = .ok (.aload_n 0, 1) := by decide +kernel
theorem dX7_past_27 : decode cX7_past 27 = .ok (.getfield 35, 3) := by decide +kernel
theorem dX7_past_30 : decode cX7_past 30 = .ok (.getfield 109, 3) := by decide +kernel
theorem dX7_past_33 : decode cX7_past 33 = .ok (.iload_n 1, 1) := by decide +kernel
theorem dX7_past_34 : decode cX7_past 34 = .ok (.isub, 1) := by decide +kernel
theorem dX7_past_35 : decode cX7_past 35 = .ok (.invokevirtual 239, 3) := by decide +kernel
theorem dX7_past_38 : decode cX7_past 38 = .ok (.ireturn, 1) := by decide +kernel
theorem dX7_idle_0 : decode cX7_idle 0 = .ok (.aload_n 0, 1) := by decide +kernel
theorem dX7_idle_1 : decode cX7_idle 1 = .ok (.getfield 89, 3) := by decide +kernel
theorem dX7_idle_4 : decode cX7_idle 4 = .ok (.ifCond .ne 9, 3) := by decide +kernel
theorem dX7_idle_7 : decode cX7_idle 7 = .ok (.aload_n 0, 1) := by decide +kernel
theorem dX7_idle_8 : decode cX7_idle 8 = .ok (.iconst 1, 1) := by decide +kernel
theorem dX7_idle_9 : decode cX7_idle 9 = .ok (.invokevirtual 67, 3) := by decide +kernel
theorem dX7_idle_12 : decode cX7_idle 12 = .ok (.ireturn, 1) := by decide +kernel
theorem dX7_idle_13 : decode cX7_idle 13 = .ok (.aload_n 0, 1) := by decide +kernel
theorem dX7_idle_14 : decode cX7_idle 14 = .ok (.aload_n 0, 1) := by decide +kernel
theorem dX7_idle_15 : decode cX7_idle 15 = .ok (.getfield 35, 3) := by decide +kernel
theorem dX7_idle_18 : decode cX7_idle 18 = .ok (.getfield 224, 3) := by decide +kernel
theorem dX7_idle_21 : decode cX7_idle 21 = .ok (.aload_n 0, 1) := by decide +kernel
theorem dX7_idle_22 : decode cX7_idle 22 = .ok (.getfield 35, 3) := by decide +kernel
theorem dX7_idle_25 : decode cX7_idle 25 = .ok (.getfield 109, 3) := by decide +kernel
theorem dX7_idle_28 : decode cX7_idle 28 = .ok (.invokevirtual 242, 3) := by decide +kernel
theorem dX7_idle_31 : decode cX7_idle 31 = .ok (.invokevirtual 99, 3) := by decide +kernel
theorem dX7_idle_34 : decode cX7_idle 34 = .ok (.ireturn, 1) := by decide +kernel
theorem dX7_waiting_0 : decode cX7_waiting 0 = .ok (.aload_n 0, 1) := by decide +kernel
theorem dX7_waiting_1 : decode cX7_waiting 1 = .ok (.iload_n 1, 1) := by decide +kernel
theorem dX7_waiting_2 : decode cX7_waiting 2 = .ok (.invokevirtual 115, 3) := by decide +kernel
theorem dX7_waiting_5 : decode cX7_waiting 5 = .ok (.ifCond .ne 9, 3) := by decide +kernel
theorem dX7_waiting_8 : decode cX7_waiting 8 = .ok (.aload_n 0, 1) := by decide +kernel
theorem dX7_waiting_9 : decode cX7_waiting 9 = .ok (.iconst 1, 1) := by decide +kernel
theorem dX7_waiting_10 : decode cX7_waiting 10 = .ok (.invokevirtual 67, 3) := by decide +kernel
theorem dX7_waiting_13 : decode cX7_waiting 13 = .ok (.ireturn, 1) := by decide +kernel
theorem dX7_waiting_14 : decode cX7_waiting 14 = .ok (.aload_n 0, 1) := by decide +kernel
theorem dX7_waiting_15 : decode cX7_waiting 15 = .ok (.aload_n 0, 1) := by decide +kernel
theorem dX7_waiting_16 : decode cX7_waiting 16 = .ok (.getfield 35, 3) := by decide +kernel
theorem dX7_waiting_19 : decode cX7_waiting 19 = .ok (.iload_n 1, 1) := by decide +kernel
theorem dX7_waiting_20 : decode cX7_waiting 20 = .ok (.invokevirtual 245, 3) := by decide +kernel
theorem dX7_waiting_23 : decode cX7_waiting 23 = .ok (.invokevirtual 99, 3) := by decide +kernel
theorem dX7_waiting_26 : decode cX7_waiting 26 = .ok (.ireturn, 1) := by decide +kernel
theorem dX7_longest_0 : decode cX7_longest 0 = .ok (.aload_n 0, 1) := by decide +kernel
theorem dX7_longest_1 : decode cX7_longest 1 = .ok (.getfield 89, 3) := by decide +kernel
theorem dX7_longest_4 : decode cX7_longest 4 = .ok (.ifCond .ne 9, 3) := by decide +kernel
theorem dX7_longest_7 : decode cX7_longest 7 = .ok (.aload_n 0, 1) := by decide +kernel
theorem dX7_longest_8 : decode cX7_longest 8 = .ok (.iconst 1, 1) := by decide +kernel
theorem dX7_longest_9 : decode cX7_longest 9 = .ok (.invokevirtual 67, 3) := by decide +kernel
theorem dX7_longest_12 : decode cX7_longest 12 = .ok (.ireturn, 1) := by decide +kernel
theorem dX7_longest_13 : decode cX7_longest 13 = .ok (.aload_n 0, 1) := by decide +kernel
theorem dX7_longest_14 : decode cX7_longest 14 = .ok (.aload_n 0, 1) := by decide +kernel
theorem dX7_longest_15 : decode cX7_longest 15 = .ok (.getfield 35, 3) := by decide +kernel
theorem dX7_longest_18 : decode cX7_longest 18 = .ok (.invokevirtual 248, 3) := by decide +kernel
theorem dX7_longest_21 : decode cX7_longest 21 = .ok (.invokevirtual 99, 3) := by decide +kernel
theorem dX7_longest_24 : decode cX7_longest 24 = .ok (.ireturn, 1) := by decide +kernel
theorem dX7_will_0 : decode cX7_will 0 = .ok (.aload_n 0, 1) := by decide +kernel
theorem dX7_will_1 : decode cX7_will 1 = .ok (.aload_n 0, 1) := by decide +kernel
theorem dX7_will_2 : decode cX7_will 2 = .ok (.getfield 89, 3) := by decide +kernel
theorem dX7_will_5 : decode cX7_will 5 = .ok (.ifCond .eq 16, 3) := by decide +kernel
theorem dX7_will_8 : decode cX7_will 8 = .ok (.iload_n 2, 1) := by decide +kernel
theorem dX7_will_9 : decode cX7_will 9 = .ok (.bipush 11, 2) := by decide +kernel
theorem dX7_will_11 : decode cX7_will 11 = .ok (.invokestatic 105, 3) := by decide +kernel
theorem dX7_will_14 : decode cX7_will 14 = .ok (.ifCond .eq 7, 3) := by decide +kernel
theorem dX7_will_17 : decode cX7_will 17 = .ok (.iconst 1, 1) := by decide +kernel
theorem dX7_will_18 : decode cX7_will 18 = .ok (.goto 4, 3) := by decide +kernel
theorem dX7_will_21 : decode cX7_will 21 = .ok (.iconst 0, 1) := by decide +kernel
theorem dX7_will_22 : decode cX7_will 22 = .ok (.iload_n 1, 1) := by decide +kernel
theorem dX7_will_23 : decode cX7_will 23 = .ok (.invokestatic 251, 3) := by decide +kernel
theorem dX7_will_26 : decode cX7_will 26 = .ok (.invokevirtual 145, 3) := by decide +kernel
theorem dX7_will_29 : decode cX7_will 29 = .ok (.ifCond .ne 5, 3) := by decide +kernel
theorem dX7_will_32 : decode cX7_will 32 = .ok (.iconst (-1), 1) := by decide +kernel
theorem dX7_will_33 : decode cX7_will 33 = .ok (.ireturn, 1) := by decide +kernel
theorem dX7_will_34 : decode cX7_will 34 = .ok (.aload_n 0, 1) := by decide +kernel
theorem dX7_will_35 : decode cX7_will 35 = .ok (.getfield 39, 3) := by decide +kernel
theorem dX7_will_38 : decode cX7_will 38 = .ok (.aload_n 0, 1) := by decide +kernel
theorem dX7_will_39 : decode cX7_will 39 = .ok (.getfield 35, 3) := by decide +kernel
theorem dX7_will_42 : decode cX7_will 42 = .ok (.invokevirtual 254, 3) := by decide +kernel
theorem dX7_will_45 : decode cX7_will 45 = .ok (.aload_n 0, 1) := by decide +kernel
theorem dX7_will_46 : decode cX7_will 46 = .ok (.getfield 39, 3) := by decide +kernel
theorem dX7_will_49 : decode cX7_will 49 = .ok (.iload_n 1, 1) := by decide +kernel
theorem dX7_will_50 : decode cX7_will 50 = .ok (.aload_n 0, 1) := by decide +kernel
theorem dX7_will_51 : decode cX7_will 51 = .ok (.getfield 28, 3) := by decide +kernel
theorem dX7_will_54 : decode cX7_will 54 = .ok (.invokevirtual 258, 3) := by decide +kernel
theorem dX7_will_57 : decode cX7_will 57 = .ok (.aload_n 0, 1) := by decide +kernel
theorem dX7_will_58 : decode cX7_will 58 = .ok (.getfield 39, 3) := by decide +kernel
theorem dX7_will_61 : decode cX7_will 61 = .ok (.iload_n 2, 1) := by decide +kernel
theorem dX7_will_62 : decode cX7_will 62 = .ok (.invokevirtual 221, 3) := by decide +kernel
theorem dX7_will_65 : decode cX7_will 65 = .ok (.ireturn, 1) := by decide +kernel
theorem dX7_till_0 : decode cX7_till 0 = .ok (.aload_n 0, 1) := by decide +kernel
theorem dX7_till_1 : decode cX7_till 1 = .ok (.iload_n 1, 1) := by decide +kernel
theorem dX7_till_2 : decode cX7_till 2 = .ok (.invokevirtual 115, 3) := by decide +kernel
theorem dX7_till_5 : decode cX7_till 5 = .ok (.ifCond .ne 9, 3) := by decide +kernel
theorem dX7_till_8 : decode cX7_till 8 = .ok (.aload_n 0, 1) := by decide +kernel
theorem dX7_till_9 : decode cX7_till 9 = .ok (.iconst 1, 1) := by decide +kernel
theorem dX7_till_10 : decode cX7_till 10 = .ok (.invokevirtual 67, 3) := by decide +kernel
theorem dX7_till_13 : decode cX7_till 13 = .ok (.ireturn, 1) := by decide +kernel
theorem dX7_till_14 : decode cX7_till 14 = .ok (.aload_n 0, 1) := by decide +kernel
theorem dX7_till_15 : decode cX7_till 15 = .ok (.getfield 39, 3) := by decide +kernel
theorem dX7_till_18 : decode cX7_till 18 = .ok (.aload_n 0, 1) := by decide +kernel
theorem dX7_till_19 : decode cX7_till 19 = .ok (.getfield 35, 3) := by decide +kernel
theorem dX7_till_22 : decode cX7_till 22 = .ok (.invokevirtual 254, 3) := by decide +kernel
theorem dX7_till_25 : decode cX7_till 25 = .ok (.aload_n 0, 1) := by decide +kernel
theorem dX7_till_26 : decode cX7_till 26 = .ok (.aload_n 0, 1) := by decide +kernel
theorem dX7_till_27 : decode cX7_till 27 = .ok (.getfield 39, 3) := by decide +kernel
theorem dX7_till_30 : decode cX7_till 30 = .ok (.iload_n 1, 1) := by decide +kernel
theorem dX7_till_31 : decode cX7_till 31 = .ok (.aload_n 0, 1) := by decide +kernel
theorem dX7_till_32 : decode cX7_till 32 = .ok (.getfield 28, 3) := by decide +kernel
theorem dX7_till_35 : decode cX7_till 35 = .ok (.invokevirtual 262, 3) := by decide +kernel
theorem dX7_till_38 : decode cX7_till 38 = .ok (.invokevirtual 99, 3) := by decide +kernel
theorem dX7_till_41 : decode cX7_till 41 = .ok (.ireturn, 1) := by decide +kernel
theorem dX7_ask_0 : decode cX7_ask 0 = .ok (.aload_n 0, 1) := by decide +kernel
theorem dX7_ask_1 : decode cX7_ask 1 = .ok (.iload_n 1, 1) := by decide +kernel
theorem dX7_ask_2 : decode cX7_ask 2 = .ok (.invokevirtual 115, 3) := by decide +kernel
theorem dX7_ask_5 : decode cX7_ask 5 = .ok (.ifCond .ne 9, 3) := by decide +kernel
theorem dX7_ask_8 : decode cX7_ask 8 = .ok (.aload_n 0, 1) := by decide +kernel
theorem dX7_ask_9 : decode cX7_ask 9 = .ok (.iconst 1, 1) := by decide +kernel
theorem dX7_ask_10 : decode cX7_ask 10 = .ok (.invokevirtual 67, 3) := by decide +kernel
theorem dX7_ask_13 : decode cX7_ask 13 = .ok (.ireturn, 1) := by decide +kernel
theorem dX7_ask_14 : decode cX7_ask 14 = .ok (.iload_n 2, 1) := by decide +kernel
theorem dX7_ask_15 : decode cX7_ask 15 = .ok (.iconst 1, 1) := by decide +kernel
theorem dX7_ask_16 : decode cX7_ask 16 = .ok (.if_icmp .lt 9, 3) := by decide +kernel
theorem dX7_ask_19 : decode cX7_ask 19 = .ok (.iload_n 2, 1) := by decide +kernel
theorem dX7_ask_20 : decode cX7_ask 20 = .ok (.bipush 99, 2) := by decide +kernel
theorem dX7_ask_22 : decode cX7_ask 22 = .ok (.if_icmp .le 9, 3) := by decide +kernel
theorem dX7_ask_25 : decode cX7_ask 25 = .ok (.aload_n 0, 1) := by decide +kernel
theorem dX7_ask_26 : decode cX7_ask 26 = .ok (.iconst 2, 1) := by decide +kernel
theorem dX7_ask_27 : decode cX7_ask 27 = .ok (.invokevirtual 67, 3) := by decide +kernel
theorem dX7_ask_30 : decode cX7_ask 30 = .ok (.ireturn, 1) := by decide +kernel
theorem dX7_ask_31 : decode cX7_ask 31 = .ok (.aload_n 0, 1) := by decide +kernel
theorem dX7_ask_32 : decode cX7_ask 32 = .ok (.getfield 35, 3) := by decide +kernel
theorem dX7_ask_35 : decode cX7_ask 35 = .ok (.iload_n 1, 1) := by decide +kernel
theorem dX7_ask_36 : decode cX7_ask 36 = .ok (.iload_n 2, 1) := by decide +kernel
theorem dX7_ask_37 : decode cX7_ask 37 = .ok (.invokevirtual 266, 3) := by decide +kernel
theorem dX7_ask_40 : decode cX7_ask 40 = .ok (.ifCond .ne 9, 3) := by decide +kernel
theorem dX7_ask_43 : decode cX7_ask 43 = .ok (.aload_n 0, 1) := by decide +kernel
theorem dX7_ask_44 : decode cX7_ask 44 = .ok (.iconst 5, 1) := by decide +kernel
theorem dX7_ask_45 : decode cX7_ask 45 = .ok (.invokevirtual 67, 3) := by decide +kernel
theorem dX7_ask_48 : decode cX7_ask 48 = .ok (.ireturn, 1) := by decide +kernel
theorem dX7_ask_49 : decode cX7_ask 49 = .ok (.aload_n 0, 1) := by decide +kernel
theorem dX7_ask_50 : decode cX7_ask 50 = .ok (.aload_n 0, 1) := by decide +kernel
theorem dX7_ask_51 : decode cX7_ask 51 = .ok (.getfield 35, 3) := by decide +kernel
theorem dX7_ask_54 : decode cX7_ask 54 = .ok (.invokevirtual 269, 3) := by decide +kernel
theorem dX7_ask_57 : decode cX7_ask 57 = .ok (.invokestatic 272, 3) := by decide +kernel
theorem dX7_ask_60 : decode cX7_ask 60 = .ok (.invokevirtual 99, 3) := by decide +kernel
theorem dX7_ask_63 : decode cX7_ask 63 = .ok (.ireturn, 1) := by decide +kernel
theorem dX7_waits_0 : decode cX7_waits 0 = .ok (.aload_n 0, 1) := by decide +kernel
theorem dX7_waits_1 : decode cX7_waits 1 = .ok (.iload_n 1, 1) := by decide +kernel
theorem dX7_waits_2 : decode cX7_waits 2 = .ok (.invokevirtual 115, 3) := by decide +kernel
theorem dX7_waits_5 : decode cX7_waits 5 = .ok (.ifCond .ne 9, 3) := by decide +kernel
theorem dX7_waits_8 : decode cX7_waits 8 = .ok (.aload_n 0, 1) := by decide +kernel
theorem dX7_waits_9 : decode cX7_waits 9 = .ok (.iconst 1, 1) := by decide +kernel
theorem dX7_waits_10 : decode cX7_waits 10 = .ok (.invokevirtual 67, 3) := by decide +kernel
theorem dX7_waits_13 : decode cX7_waits 13 = .ok (.ireturn, 1) := by decide +kernel
theorem dX7_waits_14 : decode cX7_waits 14 = .ok (.iload_n 2, 1) := by decide +kernel
theorem dX7_waits_15 : decode cX7_waits 15 = .ok (.iload_n 1, 1) := by decide +kernel
theorem dX7_waits_16 : decode cX7_waits 16 = .ok (.if_icmp .eq 16, 3) := by decide +kernel
theorem dX7_waits_19 : decode cX7_waits 19 = .ok (.iload_n 2, 1) := by decide +kernel
theorem dX7_waits_20 : decode cX7_waits 20 = .ok (.iconst (-1), 1) := by decide +kernel
theorem dX7_waits_21 : decode cX7_waits 21 = .ok (.if_icmp .eq 17, 3) := by decide +kernel
theorem dX7_waits_24 : decode cX7_waits 24 = .ok (.aload_n 0, 1) := by decide +kernel
theorem dX7_waits_25 : decode cX7_waits 25 = .ok (.iload_n 2, 1) := by decide +kernel
theorem dX7_waits_26 : decode cX7_waits 26 = .ok (.invokevirtual 115, 3) := by decide +kernel
theorem dX7_waits_29 : decode cX7_waits 29 = .ok (.ifCond .ne 9, 3) := by decide +kernel
theorem dX7_waits_32 : decode cX7_waits 32 = .ok (.aload_n 0, 1) := by decide +kernel
theorem dX7_waits_33 : decode cX7_waits 33 = .ok (.iconst 2, 1) := by decide +kernel
theorem dX7_waits_34 : decode cX7_waits 34 = .ok (.invokevirtual 67, 3) := by decide +kernel
theorem dX7_waits_37 : decode cX7_waits 37 = .ok (.ireturn, 1) := by decide +kernel
theorem dX7_waits_38 : decode cX7_waits 38 = .ok (.iload_n 2, 1) := by decide +kernel
theorem dX7_waits_39 : decode cX7_waits 39 = .ok (.iconst (-1), 1) := by decide +kernel
theorem dX7_waits_40 : decode cX7_waits 40 = .ok (.if_icmp .eq 24, 3) := by decide +kernel
theorem dX7_waits_43 : decode cX7_waits 43 = .ok (.aload_n 0, 1) := by decide +kernel
theorem dX7_waits_44 : decode cX7_waits 44 = .ok (.getfield 35, 3) := by decide +kernel
theorem dX7_waits_47 : decode cX7_waits 47 = .ok (.iload_n 1, 1) := by decide +kernel
theorem dX7_waits_48 : decode cX7_waits 48 = .ok (.invokevirtual 245, 3) := by decide +kernel
theorem dX7_waits_51 : decode cX7_waits 51 = .ok (.iload_n 2, 1) := by decide +kernel
theorem dX7_waits_52 : decode cX7_waits 52 = .ok (.invokestatic 277, 3) := by decide +kernel
theorem dX7_waits_55 : decode cX7_waits 55 = .ok (.ifCond .eq 9, 3) := by decide +kernel
theorem dX7_waits_58 : decode cX7_waits 58 = .ok (.aload_n 0, 1) := by decide +kernel
theorem dX7_waits_59 : decode cX7_waits 59 = .ok (.iconst 5, 1) := by decide +kernel
theorem dX7_waits_60 : decode cX7_waits 60 = .ok (.invokevirtual 67, 3) := by decide +kernel
theorem dX7_waits_63 : decode cX7_waits 63 = .ok (.ireturn, 1) := by decide +kernel
theorem dX7_waits_64 : decode cX7_waits 64 = .ok (.aload_n 0, 1) := by decide +kernel
theorem dX7_waits_65 : decode cX7_waits 65 = .ok (.aload_n 0, 1) := by decide +kernel
theorem dX7_waits_66 : decode cX7_waits 66 = .ok (.getfield 35, 3) := by decide +kernel
theorem dX7_waits_69 : decode cX7_waits 69 = .ok (.iload_n 1, 1) := by decide +kernel
theorem dX7_waits_70 : decode cX7_waits 70 = .ok (.iload_n 2, 1) := by decide +kernel
theorem dX7_waits_71 : decode cX7_waits 71 = .ok (.iconst (-1), 1) := by decide +kernel
theorem dX7_waits_72 : decode cX7_waits 72 = .ok (.if_icmp .ne 8, 3) := by decide +kernel
theorem dX7_waits_75 : decode cX7_waits 75 = .ok (.bipush (-2), 2) := by decide +kernel
theorem dX7_waits_77 : decode cX7_waits 77 = .ok (.goto 4, 3) := by decide +kernel
theorem dX7_waits_80 : decode cX7_waits 80 = .ok (.iload_n 2, 1) := by decide +kernel
theorem dX7_waits_81 : decode cX7_waits 81 = .ok (.invokevirtual 280, 3) := by decide +kernel
theorem dX7_waits_84 : decode cX7_waits 84 = .ok (.invokevirtual 99, 3) := by decide +kernel
theorem dX7_waits_87 : decode cX7_waits 87 = .ok (.ireturn, 1) := by decide +kernel
theorem dX7_stick_0 : decode cX7_stick 0 = .ok (.aload_n 0, 1) := by decide +kernel
theorem dX7_stick_1 : decode cX7_stick 1 = .ok (.aload_n 0, 1) := by decide +kernel
theorem dX7_stick_2 : decode cX7_stick 2 = .ok (.getfield 89, 3) := by decide +kernel
theorem dX7_stick_5 : decode cX7_stick 5 = .ok (.ifCond .eq 16, 3) := by decide +kernel
theorem dX7_stick_8 : decode cX7_stick 8 = .ok (.iload_n 1, 1) := by decide +kernel
theorem dX7_stick_9 : decode cX7_stick 9 = .ok (.bipush 6, 2) := by decide +kernel
theorem dX7_stick_11 : decode cX7_stick 11 = .ok (.invokestatic 105, 3) := by decide +kernel
theorem dX7_stick_14 : decode cX7_stick 14 = .ok (.ifCond .eq 7, 3) := by decide +kernel
theorem dX7_stick_17 : decode cX7_stick 17 = .ok (.iconst 1, 1) := by decide +kernel
theorem dX7_stick_18 : decode cX7_stick 18 = .ok (.goto 4, 3) := by decide +kernel
theorem dX7_stick_21 : decode cX7_stick 21 = .ok (.iconst 0, 1) := by decide +kernel
theorem dX7_stick_22 : decode cX7_stick 22 = .ok (.iload_n 2, 1) := by decide +kernel
theorem dX7_stick_23 : decode cX7_stick 23 = .ok (.ifCond .lt 12, 3) := by decide +kernel
theorem dX7_stick_26 : decode cX7_stick 26 = .ok (.iload_n 2, 1) := by decide +kernel
theorem dX7_stick_27 : decode cX7_stick 27 = .ok (.iconst 2, 1) := by decide +kernel
theorem dX7_stick_28 : decode cX7_stick 28 = .ok (.if_icmp .gt 7, 3) := by decide +kernel
theorem dX7_stick_31 : decode cX7_stick 31 = .ok (.iconst 1, 1) := by decide +kernel
theorem dX7_stick_32 : decode cX7_stick 32 = .ok (.goto 4, 3) := by decide +kernel
theorem dX7_stick_35 : decode cX7_stick 35 = .ok (.iconst 0, 1) := by decide +kernel
theorem dX7_stick_36 : decode cX7_stick 36 = .ok (.invokevirtual 145, 3) := by decide +kernel
theorem dX7_stick_39 : decode cX7_stick 39 = .ok (.ifCond .ne 5, 3) := by decide +kernel
theorem dX7_stick_42 : decode cX7_stick 42 = .ok (.iconst (-1), 1) := by decide +kernel
theorem dX7_stick_43 : decode cX7_stick 43 = .ok (.ireturn, 1) := by decide +kernel
theorem dX7_stick_44 : decode cX7_stick 44 = .ok (.aload_n 0, 1) := by decide +kernel
theorem dX7_stick_45 : decode cX7_stick 45 = .ok (.getfield 35, 3) := by decide +kernel
theorem dX7_stick_48 : decode cX7_stick 48 = .ok (.iload_n 1, 1) := by decide +kernel
theorem dX7_stick_49 : decode cX7_stick 49 = .ok (.iload_n 2, 1) := by decide +kernel
theorem dX7_stick_50 : decode cX7_stick 50 = .ok (.invokevirtual 283, 3) := by decide +kernel
theorem dX7_stick_53 : decode cX7_stick 53 = .ok (.ireturn, 1) := by decide +kernel
theorem dX7_ticks_0 : decode cX7_ticks 0 = .ok (.aload_n 0, 1) := by decide +kernel
theorem dX7_ticks_1 : decode cX7_ticks 1 = .ok (.aload_n 0, 1) := by decide +kernel
theorem dX7_ticks_2 : decode cX7_ticks 2 = .ok (.getfield 89, 3) := by decide +kernel
theorem dX7_ticks_5 : decode cX7_ticks 5 = .ok (.iload_n 1, 1) := by decide +kernel
theorem dX7_ticks_6 : decode cX7_ticks 6 = .ok (.invokestatic 251, 3) := by decide +kernel
theorem dX7_ticks_9 : decode cX7_ticks 9 = .ok (.invokevirtual 145, 3) := by decide +kernel
theorem dX7_ticks_12 : decode cX7_ticks 12 = .ok (.ifCond .ne 5, 3) := by decide +kernel
theorem dX7_ticks_15 : decode cX7_ticks 15 = .ok (.iconst (-1), 1) := by decide +kernel
theorem dX7_ticks_16 : decode cX7_ticks 16 = .ok (.ireturn, 1) := by decide +kernel
theorem dX7_ticks_17 : decode cX7_ticks 17 = .ok (.aload_n 0, 1) := by decide +kernel
theorem dX7_ticks_18 : decode cX7_ticks 18 = .ok (.getfield 35, 3) := by decide +kernel
theorem dX7_ticks_21 : decode cX7_ticks 21 = .ok (.iload_n 1, 1) := by decide +kernel
theorem dX7_ticks_22 : decode cX7_ticks 22 = .ok (.aload_n 0, 1) := by decide +kernel
theorem dX7_ticks_23 : decode cX7_ticks 23 = .ok (.getfield 28, 3) := by decide +kernel
theorem dX7_ticks_26 : decode cX7_ticks 26 = .ok (.invokevirtual 258, 3) := by decide +kernel
theorem dX7_ticks_29 : decode cX7_ticks 29 = .ok (.aload_n 0, 1) := by decide +kernel
theorem dX7_ticks_30 : decode cX7_ticks 30 = .ok (.getfield 35, 3) := by decide +kernel
theorem dX7_ticks_33 : decode cX7_ticks 33 = .ok (.getfield 286, 3) := by decide +kernel
theorem dX7_ticks_36 : decode cX7_ticks 36 = .ok (.ireturn, 1) := by decide +kernel
theorem dX7_keep_0 : decode cX7_keep 0 = .ok (.aload_n 0, 1) := by decide +kernel
theorem dX7_keep_1 : decode cX7_keep 1 = .ok (.getfield 89, 3) := by decide +kernel
theorem dX7_keep_4 : decode cX7_keep 4 = .ok (.ifCond .ne 10, 3) := by decide +kernel
theorem dX7_keep_7 : decode cX7_keep 7 = .ok (.aload_n 0, 1) := by decide +kernel
theorem dX7_keep_8 : decode cX7_keep 8 = .ok (.iconst 1, 1) := by decide +kernel
theorem dX7_keep_9 : decode cX7_keep 9 = .ok (.putfield 102, 3) := by decide +kernel
theorem dX7_keep_12 : decode cX7_keep 12 = .ok (.iconst 0, 1) := by decide +kernel
theorem dX7_keep_13 : decode cX7_keep 13 = .ok (.ireturn, 1) := by decide +kernel
theorem dX7_keep_14 : decode cX7_keep 14 = .ok (.aload_n 0, 1) := by decide +kernel
theorem dX7_keep_15 : decode cX7_keep 15 = .ok (.getfield 42, 3) := by decide +kernel
theorem dX7_keep_18 : decode cX7_keep 18 = .ok (.aload_n 0, 1) := by decide +kernel
theorem dX7_keep_19 : decode cX7_keep 19 = .ok (.getfield 35, 3) := by decide +kernel
theorem dX7_keep_22 : decode cX7_keep 22 = .ok (.invokevirtual 254, 3) := by decide +kernel
theorem dX7_keep_25 : decode cX7_keep 25 = .ok (.aload_n 0, 1) := by decide +kernel
theorem dX7_keep_26 : decode cX7_keep 26 = .ok (.iconst 1, 1) := by decide +kernel
theorem dX7_keep_27 : decode cX7_keep 27 = .ok (.putfield 93, 3) := by decide +kernel
theorem dX7_keep_30 : decode cX7_keep 30 = .ok (.aload_n 0, 1) := by decide +kernel
theorem dX7_keep_31 : decode cX7_keep 31 = .ok (.iconst 0, 1) := by decide +kernel
theorem dX7_keep_32 : decode cX7_keep 32 = .ok (.putfield 102, 3) := by decide +kernel
theorem dX7_keep_35 : decode cX7_keep 35 = .ok (.iconst 1, 1) := by decide +kernel
theorem dX7_keep_36 : decode cX7_keep 36 = .ok (.ireturn, 1) := by decide +kernel
theorem dX7_back_0 : decode cX7_back 0 = .ok (.aload_n 0, 1) := by decide +kernel
theorem dX7_back_1 : decode cX7_back 1 = .ok (.getfield 93, 3) := by decide +kernel
theorem dX7_back_4 : decode cX7_back 4 = .ok (.ifCond .ne 10, 3) := by decide +kernel
theorem dX7_back_7 : decode cX7_back 7 = .ok (.aload_n 0, 1) := by decide +kernel
theorem dX7_back_8 : decode cX7_back 8 = .ok (.iconst 1, 1) := by decide +kernel
theorem dX7_back_9 : decode cX7_back 9 = .ok (.putfield 102, 3) := by decide +kernel
theorem dX7_back_12 : decode cX7_back 12 = .ok (.iconst 0, 1) := by decide +kernel
theorem dX7_back_13 : decode cX7_back 13 = .ok (.ireturn, 1) := by decide +kernel
theorem dX7_back_14 : decode cX7_back 14 = .ok (.aload_n 0, 1) := by decide +kernel
theorem dX7_back_15 : decode cX7_back 15 = .ok (.getfield 35, 3) := by decide +kernel
theorem dX7_back_18 : decode cX7_back 18 = .ok (.aload_n 0, 1) := by decide +kernel
theorem dX7_back_19 : decode cX7_back 19 = .ok (.getfield 42, 3) := by decide +kernel
theorem dX7_back_22 : decode cX7_back 22 = .ok (.invokevirtual 254, 3) := by decide +kernel
theorem dX7_back_25 : decode cX7_back 25 = .ok (.aload_n 0, 1) := by decide +kernel
theorem dX7_back_26 : decode cX7_back 26 = .ok (.iconst 0, 1) := by decide +kernel
theorem dX7_back_27 : decode cX7_back 27 = .ok (.putfield 102, 3) := by decide +kernel
theorem dX7_back_30 : decode cX7_back 30 = .ok (.iconst 1, 1) := by decide +kernel
theorem dX7_back_31 : decode cX7_back 31 = .ok (.ireturn, 1) := by decide +kernel
theorem dX7_never_0 : decode cX7_never 0 = .ok (.aload_n 0, 1) := by decide +kernel
theorem dX7_never_1 : decode cX7_never 1 = .ok (.getfield 89, 3) := by decide +kernel
theorem dX7_never_4 : decode cX7_never 4 = .ok (.ifCond .eq 18, 3) := by decide +kernel
theorem dX7_never_7 : decode cX7_never 7 = .ok (.iload_n 1, 1) := by decide +kernel
theorem dX7_never_8 : decode cX7_never 8 = .ok (.ifCond .lt 14, 3) := by decide +kernel
theorem dX7_never_11 : decode cX7_never 11 = .ok (.aload_n 0, 1) := by decide +kernel
theorem dX7_never_12 : decode cX7_never 12 = .ok (.getfield 35, 3) := by decide +kernel
theorem dX7_never_15 : decode cX7_never 15 = .ok (.iload_n 1, 1) := by decide +kernel
theorem dX7_never_16 : decode cX7_never 16 = .ok (.invokevirtual 289, 3) := by decide +kernel
theorem dX7_never_19 : decode cX7_never 19 = .ok (.goto 4, 3) := by decide +kernel
theorem dX7_never_22 : decode cX7_never 22 = .ok (.iconst (-1), 1) := by decide +kernel
theorem dX7_never_23 : decode cX7_never 23 = .ok (.istore_n 2, 1) := by decide +kernel
theorem dX7_never_24 : decode cX7_never 24 = .ok (.iload_n 2, 1) := by decide +kernel
theorem dX7_never_25 : decode cX7_never 25 = .ok (.iconst (-1), 1) := by decide +kernel
theorem dX7_never_26 : decode cX7_never 26 = .ok (.if_icmp .ne 14, 3) := by decide +kernel
theorem dX7_never_29 : decode cX7_never 29 = .ok (.new 292, 3) := by decide +kernel
theorem dX7_never_32 : decode cX7_never 32 = .ok (.dup, 1) := by decide +kernel
theorem dX7_never_33 : decode cX7_never 33 = .ok (.ldc_w 294, 3) := by decide +kernel
theorem dX7_never_36 : decode cX7_never 36 = .ok (.invokespecial 296, 3) := by decide +kernel
theorem dX7_never_39 : decode cX7_never 39 = .ok (.athrow, 1) := by decide +kernel
theorem dX7_never_40 : decode cX7_never 40 = .ok (.iload_n 2, 1) := by decide +kernel
theorem dX7_never_41 : decode cX7_never 41 = .ok (.ireturn, 1) := by decide +kernel
theorem dX7_size_0 : decode cX7_size 0 = .ok (.iload_n 1, 1) := by decide +kernel
theorem dX7_size_1 : decode cX7_size 1 = .ok (.tableswitch 90 0 3 #[31, 39, 58, 71], 31) := by decide +kernel
theorem dX7_size_32 : decode cX7_size 32 = .ok (.aload_n 0, 1) := by decide +kernel
theorem dX7_size_33 : decode cX7_size 33 = .ok (.getfield 10, 3) := by decide +kernel
theorem dX7_size_36 : decode cX7_size 36 = .ok (.getfield 63, 3) := by decide +kernel
theorem dX7_size_39 : decode cX7_size 39 = .ok (.ireturn, 1) := by decide +kernel
theorem dX7_size_40 : decode cX7_size 40 = .ok (.aload_n 0, 1) := by decide +kernel
theorem dX7_size_41 : decode cX7_size 41 = .ok (.getfield 89, 3) := by decide +kernel
theorem dX7_size_44 : decode cX7_size 44 = .ok (.ifCond .eq 13, 3) := by decide +kernel
theorem dX7_size_47 : decode cX7_size 47 = .ok (.aload_n 0, 1) := by decide +kernel
theorem dX7_size_48 : decode cX7_size 48 = .ok (.getfield 35, 3) := by decide +kernel
theorem dX7_size_51 : decode cX7_size 51 = .ok (.invokevirtual 299, 3) := by decide +kernel
theorem dX7_size_54 : decode cX7_size 54 = .ok (.goto 4, 3) := by decide +kernel
theorem dX7_size_57 : decode cX7_size 57 = .ok (.iconst 0, 1) := by decide +kernel
theorem dX7_size_58 : decode cX7_size 58 = .ok (.ireturn, 1) := by decide +kernel
theorem dX7_size_59 : decode cX7_size 59 = .ok (.aload_n 0, 1) := by decide +kernel
theorem dX7_size_60 : decode cX7_size 60 = .ok (.getfield 93, 3) := by decide +kernel
theorem dX7_size_63 : decode cX7_size 63 = .ok (.ifCond .eq 7, 3) := by decide +kernel
theorem dX7_size_66 : decode cX7_size 66 = .ok (.iconst 1, 1) := by decide +kernel
theorem dX7_size_67 : decode cX7_size 67 = .ok (.goto 4, 3) := by decide +kernel
theorem dX7_size_70 : decode cX7_size 70 = .ok (.iconst 0, 1) := by decide +kernel
theorem dX7_size_71 : decode cX7_size 71 = .ok (.ireturn, 1) := by decide +kernel
theorem dX7_size_72 : decode cX7_size 72 = .ok (.aload_n 0, 1) := by decide +kernel
theorem dX7_size_73 : decode cX7_size 73 = .ok (.getfield 89, 3) := by decide +kernel
theorem dX7_size_76 : decode cX7_size 76 = .ok (.ifCond .eq 13, 3) := by decide +kernel
theorem dX7_size_79 : decode cX7_size 79 = .ok (.aload_n 0, 1) := by decide +kernel
theorem dX7_size_80 : decode cX7_size 80 = .ok (.getfield 35, 3) := by decide +kernel
theorem dX7_size_83 : decode cX7_size 83 = .ok (.invokevirtual 302, 3) := by decide +kernel
theorem dX7_size_86 : decode cX7_size 86 = .ok (.goto 4, 3) := by decide +kernel
theorem dX7_size_89 : decode cX7_size 89 = .ok (.iconst 0, 1) := by decide +kernel
theorem dX7_size_90 : decode cX7_size 90 = .ok (.ireturn, 1) := by decide +kernel
theorem dX7_size_91 : decode cX7_size 91 = .ok (.iconst (-1), 1) := by decide +kernel
theorem dX7_size_92 : decode cX7_size 92 = .ok (.ireturn, 1) := by decide +kernel
theorem dX7_trouble_0 : decode cX7_trouble 0 = .ok (.aload_n 0, 1) := by decide +kernel
theorem dX7_trouble_1 : decode cX7_trouble 1 = .ok (.getfield 102, 3) := by decide +kernel
theorem dX7_trouble_4 : decode cX7_trouble 4 = .ok (.ireturn, 1) := by decide +kernel
theorem dX7_refused_0 : decode cX7_refused 0 = .ok (.aload_n 0, 1) := by decide +kernel
theorem dX7_refused_1 : decode cX7_refused 1 = .ok (.iload_n 1, 1) := by decide +kernel
theorem dX7_refused_2 : decode cX7_refused 2 = .ok (.putfield 102, 3) := by decide +kernel
theorem dX7_refused_5 : decode cX7_refused 5 = .ok (.iconst (-1), 1) := by decide +kernel
theorem dX7_refused_6 : decode cX7_refused 6 = .ok (.ireturn, 1) := by decide +kernel
theorem dX7_accepted_0 : decode cX7_accepted 0 = .ok (.aload_n 0, 1) := by decide +kernel
theorem dX7_accepted_1 : decode cX7_accepted 1 = .ok (.iconst 0, 1) := by decide +kernel
theorem dX7_accepted_2 : decode cX7_accepted 2 = .ok (.putfield 102, 3) := by decide +kernel
theorem dX7_accepted_5 : decode cX7_accepted 5 = .ok (.iload_n 1, 1) := by decide +kernel
theorem dX7_accepted_6 : decode cX7_accepted 6 = .ok (.ireturn, 1) := by decide +kernel
theorem dX7_accepts_0 : decode cX7_accepts 0 = .ok (.aload_n 0, 1) := by decide +kernel
theorem dX7_accepts_1 : decode cX7_accepts 1 = .ok (.iload_n 1, 1) := by decide +kernel
theorem dX7_accepts_2 : decode cX7_accepts 2 = .ok (.ifCond .ne 7, 3) := by decide +kernel
theorem dX7_accepts_5 : decode cX7_accepts 5 = .ok (.iconst 1, 1) := by decide +kernel
theorem dX7_accepts_6 : decode cX7_accepts 6 = .ok (.goto 12, 3) := by decide +kernel
theorem dX7_accepts_9 : decode cX7_accepts 9 = .ok (.iload_n 2, 1) := by decide +kernel
theorem dX7_accepts_10 : decode cX7_accepts 10 = .ok (.ifCond .ne 7, 3) := by decide +kernel
theorem dX7_accepts_13 : decode cX7_accepts 13 = .ok (.iconst 2, 1) := by decide +kernel
theorem dX7_accepts_14 : decode cX7_accepts 14 = .ok (.goto 4, 3) := by decide +kernel
theorem dX7_accepts_17 : decode cX7_accepts 17 = .ok (.iconst 0, 1) := by decide +kernel
theorem dX7_accepts_18 : decode cX7_accepts 18 = .ok (.putfield 102, 3) := by decide +kernel
theorem dX7_accepts_21 : decode cX7_accepts 21 = .ok (.aload_n 0, 1) := by decide +kernel
theorem dX7_accepts_22 : decode cX7_accepts 22 = .ok (.getfield 102, 3) := by decide +kernel
theorem dX7_accepts_25 : decode cX7_accepts 25 = .ok (.ifCond .ne 7, 3) := by decide +kernel
theorem dX7_accepts_28 : decode cX7_accepts 28 = .ok (.iconst 1, 1) := by decide +kernel
theorem dX7_accepts_29 : decode cX7_accepts 29 = .ok (.goto 4, 3) := by decide +kernel
theorem dX7_accepts_32 : decode cX7_accepts 32 = .ok (.iconst 0, 1) := by decide +kernel
theorem dX7_accepts_33 : decode cX7_accepts 33 = .ok (.ireturn, 1) := by decide +kernel
theorem dX7_hasBoard_0 : decode cX7_hasBoard 0 = .ok (.aload_n 0, 1) := by decide +kernel
theorem dX7_hasBoard_1 : decode cX7_hasBoard 1 = .ok (.getfield 89, 3) := by decide +kernel
theorem dX7_hasBoard_4 : decode cX7_hasBoard 4 = .ok (.ifCond .eq 18, 3) := by decide +kernel
theorem dX7_hasBoard_7 : decode cX7_hasBoard 7 = .ok (.aload_n 0, 1) := by decide +kernel
theorem dX7_hasBoard_8 : decode cX7_hasBoard 8 = .ok (.getfield 48, 3) := by decide +kernel
theorem dX7_hasBoard_11 : decode cX7_hasBoard 11 = .ok (.iload_n 1, 1) := by decide +kernel
theorem dX7_hasBoard_12 : decode cX7_hasBoard 12 = .ok (.invokevirtual 305, 3) := by decide +kernel
theorem dX7_hasBoard_15 : decode cX7_hasBoard 15 = .ok (.ifCond .eq 7, 3) := by decide +kernel
theorem dX7_hasBoard_18 : decode cX7_hasBoard 18 = .ok (.iconst 1, 1) := by decide +kernel
theorem dX7_hasBoard_19 : decode cX7_hasBoard 19 = .ok (.goto 4, 3) := by decide +kernel
theorem dX7_hasBoard_22 : decode cX7_hasBoard 22 = .ok (.iconst 0, 1) := by decide +kernel
theorem dX7_hasBoard_23 : decode cX7_hasBoard 23 = .ok (.ireturn, 1) := by decide +kernel
theorem dX7_isSet_0 : decode cX7_isSet 0 = .ok (.iload_n 1, 1) := by decide +kernel
theorem dX7_isSet_1 : decode cX7_isSet 1 = .ok (.iconst 1, 1) := by decide +kernel
theorem dX7_isSet_2 : decode cX7_isSet 2 = .ok (.if_icmp .lt 18, 3) := by decide +kernel
theorem dX7_isSet_5 : decode cX7_isSet 5 = .ok (.iload_n 1, 1) := by decide +kernel
theorem dX7_isSet_6 : decode cX7_isSet 6 = .ok (.aload_n 0, 1) := by decide +kernel
theorem dX7_isSet_7 : decode cX7_isSet 7 = .ok (.getfield 48, 3) := by decide +kernel
theorem dX7_isSet_10 : decode cX7_isSet 10 = .ok (.invokevirtual 200, 3) := by decide +kernel
theorem dX7_isSet_13 : decode cX7_isSet 13 = .ok (.if_icmp .ge 7, 3) := by decide +kernel
theorem dX7_isSet_16 : decode cX7_isSet 16 = .ok (.iconst 1, 1) := by decide +kernel
theorem dX7_isSet_17 : decode cX7_isSet 17 = .ok (.goto 4, 3) := by decide +kernel
theorem dX7_isSet_20 : decode cX7_isSet 20 = .ok (.iconst 0, 1) := by decide +kernel
theorem dX7_isSet_21 : decode cX7_isSet 21 = .ok (.ireturn, 1) := by decide +kernel
theorem dX7_isContest_0 : decode cX7_isContest 0 = .ok (.iload_n 1, 1) := by decide +kernel
theorem dX7_isContest_1 : decode cX7_isContest 1 = .ok (.invokestatic 128, 3) := by decide +kernel
theorem dX7_isContest_4 : decode cX7_isContest 4 = .ok (.ifCond .eq 15, 3) := by decide +kernel
theorem dX7_isContest_7 : decode cX7_isContest 7 = .ok (.aload_n 0, 1) := by decide +kernel
theorem dX7_isContest_8 : decode cX7_isContest 8 = .ok (.iload_n 2, 1) := by decide +kernel
theorem dX7_isContest_9 : decode cX7_isContest 9 = .ok (.invokevirtual 211, 3) := by decide +kernel
theorem dX7_isContest_12 : decode cX7_isContest 12 = .ok (.ifCond .eq 7, 3) := by decide +kernel
theorem dX7_isContest_15 : decode cX7_isContest 15 = .ok (.iconst 1, 1) := by decide +kernel
theorem dX7_isContest_16 : decode cX7_isContest 16 = .ok (.goto 4, 3) := by decide +kernel
theorem dX7_isContest_19 : decode cX7_isContest 19 = .ok (.iconst 0, 1) := by decide +kernel
theorem dX7_isContest_20 : decode cX7_isContest 20 = .ok (.ireturn, 1) := by decide +kernel
theorem dX7_laid_0 : decode cX7_laid 0 = .ok (.aload_n 0, 1) := by decide +kernel
theorem dX7_laid_1 : decode cX7_laid 1 = .ok (.getfield 28, 3) := by decide +kernel
theorem dX7_laid_4 : decode cX7_laid 4 = .ok (.getfield 308, 3) := by decide +kernel
theorem dX7_laid_7 : decode cX7_laid 7 = .ok (.astore_n 2, 1) := by decide +kernel
theorem dX7_laid_8 : decode cX7_laid 8 = .ok (.aload_n 2, 1) := by decide +kernel
theorem dX7_laid_9 : decode cX7_laid 9 = .ok (.aload_n 0, 1) := by decide +kernel
theorem dX7_laid_10 : decode cX7_laid 10 = .ok (.getfield 48, 3) := by decide +kernel
theorem dX7_laid_13 : decode cX7_laid 13 = .ok (.aload_n 0, 1) := by decide +kernel
theorem dX7_laid_14 : decode cX7_laid 14 = .ok (.getfield 35, 3) := by decide +kernel
theorem dX7_laid_17 : decode cX7_laid 17 = .ok (.iconst 1, 1) := by decide +kernel
theorem dX7_laid_18 : decode cX7_laid 18 = .ok (.invokevirtual 312, 3) := by decide +kernel
theorem dX7_laid_21 : decode cX7_laid 21 = .ok (.aload_n 0, 1) := by decide +kernel
theorem dX7_laid_22 : decode cX7_laid 22 = .ok (.getfield 35, 3) := by decide +kernel
theorem dX7_laid_25 : decode cX7_laid 25 = .ok (.iconst 2, 1) := by decide +kernel
theorem dX7_laid_26 : decode cX7_laid 26 = .ok (.invokevirtual 312, 3) := by decide +kernel
theorem dX7_laid_29 : decode cX7_laid 29 = .ok (.invokevirtual 315, 3) := by decide +kernel
theorem dX7_laid_32 : decode cX7_laid 32 = .ok (.iload_n 1, 1) := by decide +kernel
theorem dX7_laid_33 : decode cX7_laid 33 = .ok (.iconst 1, 1) := by decide +kernel
theorem dX7_laid_34 : decode cX7_laid 34 = .ok (.if_icmp .ne 13, 3) := by decide +kernel
theorem dX7_laid_37 : decode cX7_laid 37 = .ok (.aload_n 0, 1) := by decide +kernel
theorem dX7_laid_38 : decode cX7_laid 38 = .ok (.getfield 35, 3) := by decide +kernel
theorem dX7_laid_41 : decode cX7_laid 41 = .ok (.invokevirtual 131, 3) := by decide +kernel
theorem dX7_laid_44 : decode cX7_laid 44 = .ok (.goto 10, 3) := by decide +kernel
theorem dX7_laid_47 : decode cX7_laid 47 = .ok (.aload_n 0, 1) := by decide +kernel
theorem dX7_laid_48 : decode cX7_laid 48 = .ok (.getfield 48, 3) := by decide +kernel
theorem dX7_laid_51 : decode cX7_laid 51 = .ok (.getfield 135, 3) := by decide +kernel
theorem dX7_laid_54 : decode cX7_laid 54 = .ok (.iconst 0, 1) := by decide +kernel
theorem dX7_laid_55 : decode cX7_laid 55 = .ok (.aload_n 2, 1) := by decide +kernel
theorem dX7_laid_56 : decode cX7_laid 56 = .ok (.getfield 319, 3) := by decide +kernel
theorem dX7_laid_59 : decode cX7_laid 59 = .ok (.iconst 0, 1) := by decide +kernel
theorem dX7_laid_60 : decode cX7_laid 60 = .ok (.bipush 6, 2) := by decide +kernel
theorem dX7_laid_62 : decode cX7_laid 62 = .ok (.invokestatic 322, 3) := by decide +kernel
theorem dX7_laid_65 : decode cX7_laid 65 = .ok (.aload_n 2, 1) := by decide +kernel
theorem dX7_laid_66 : decode cX7_laid 66 = .ok (.areturn, 1) := by decide +kernel
theorem dX7_played_0 : decode cX7_played 0 = .ok (.aload_n 0, 1) := by decide +kernel
theorem dX7_played_1 : decode cX7_played 1 = .ok (.iload_n 1, 1) := by decide +kernel
theorem dX7_played_2 : decode cX7_played 2 = .ok (.invokevirtual 177, 3) := by decide +kernel
theorem dX7_played_5 : decode cX7_played 5 = .ok (.astore_n 3, 1) := by decide +kernel
theorem dX7_played_6 : decode cX7_played 6 = .ok (.aload_n 3, 1) := by decide +kernel
theorem dX7_played_7 : decode cX7_played 7 = .ok (.iload_n 2, 1) := by decide +kernel
theorem dX7_played_8 : decode cX7_played 8 = .ok (.aload_n 0, 1) := by decide +kernel
theorem dX7_played_9 : decode cX7_played 9 = .ok (.getfield 48, 3) := by decide +kernel
theorem dX7_played_12 : decode cX7_played 12 = .ok (.getfield 203, 3) := by decide +kernel
theorem dX7_played_15 : decode cX7_played 15 = .ok (.sipush 400, 3) := by decide +kernel
theorem dX7_played_18 : decode cX7_played 18 = .ok (.invokevirtual 193, 3) := by decide +kernel
theorem dX7_played_21 : decode cX7_played 21 = .ok (.aload_n 3, 1) := by decide +kernel
theorem dX7_played_22 : decode cX7_played 22 = .ok (.areturn, 1) := by decide +kernel
theorem dX7_isPass_0 : decode cX7_isPass 0 = .ok (.iload_n 0, 1) := by decide +kernel
theorem dX7_isPass_1 : decode cX7_isPass 1 = .ok (.iconst 1, 1) := by decide +kernel
theorem dX7_isPass_2 : decode cX7_isPass 2 = .ok (.if_icmp .eq 8, 3) := by decide +kernel
theorem dX7_isPass_5 : decode cX7_isPass 5 = .ok (.iload_n 0, 1) := by decide +kernel
theorem dX7_isPass_6 : decode cX7_isPass 6 = .ok (.iconst 2, 1) := by decide +kernel
theorem dX7_isPass_7 : decode cX7_isPass 7 = .ok (.if_icmp .ne 7, 3) := by decide +kernel
theorem dX7_isPass_10 : decode cX7_isPass 10 = .ok (.iconst 1, 1) := by decide +kernel
theorem dX7_isPass_11 : decode cX7_isPass 11 = .ok (.goto 4, 3) := by decide +kernel
theorem dX7_isPass_14 : decode cX7_isPass 14 = .ok (.iconst 0, 1) := by decide +kernel
theorem dX7_isPass_15 : decode cX7_isPass 15 = .ok (.ireturn, 1) := by decide +kernel
theorem dX7_isTick_0 : decode cX7_isTick 0 = .ok (.iload_n 0, 1) := by decide +kernel
theorem dX7_isTick_1 : decode cX7_isTick 1 = .ok (.ifCond .lt 14, 3) := by decide +kernel
theorem dX7_isTick_4 : decode cX7_isTick 4 = .ok (.iload_n 0, 1) := by decide +kernel
theorem dX7_isTick_5 : decode cX7_isTick 5 = .ok (.sipush 400, 3) := by decide +kernel
theorem dX7_isTick_8 : decode cX7_isTick 8 = .ok (.if_icmp .gt 7, 3) := by decide +kernel
theorem dX7_isTick_11 : decode cX7_isTick 11 = .ok (.iconst 1, 1) := by decide +kernel
theorem dX7_isTick_12 : decode cX7_isTick 12 = .ok (.goto 4, 3) := by decide +kernel
theorem dX7_isTick_15 : decode cX7_isTick 15 = .ok (.iconst 0, 1) := by decide +kernel
theorem dX7_isTick_16 : decode cX7_isTick 16 = .ok (.ireturn, 1) := by decide +kernel
theorem dX7_isStepCount_0 : decode cX7_isStepCount 0 = .ok (.iload_n 0, 1) := by decide +kernel
theorem dX7_isStepCount_1 : decode cX7_isStepCount 1 = .ok (.iconst 1, 1) := by decide +kernel
theorem dX7_isStepCount_2 : decode cX7_isStepCount 2 = .ok (.if_icmp .lt 14, 3) := by decide +kernel
theorem dX7_isStepCount_5 : decode cX7_isStepCount 5 = .ok (.iload_n 0, 1) := by decide +kernel
theorem dX7_isStepCount_6 : decode cX7_isStepCount 6 = .ok (.sipush 999, 3) := by decide +kernel
theorem dX7_isStepCount_9 : decode cX7_isStepCount 9 = .ok (.if_icmp .gt 7, 3) := by decide +kernel
theorem dX7_isStepCount_12 : decode cX7_isStepCount 12 = .ok (.iconst 1, 1) := by decide +kernel
theorem dX7_isStepCount_13 : decode cX7_isStepCount 13 = .ok (.goto 4, 3) := by decide +kernel
theorem dX7_isStepCount_16 : decode cX7_isStepCount 16 = .ok (.iconst 0, 1) := by decide +kernel
theorem dX7_isStepCount_17 : decode cX7_isStepCount 17 = .ok (.ireturn, 1) := by decide +kernel
theorem dX7_isBelow_0 : decode cX7_isBelow 0 = .ok (.iload_n 0, 1) := by decide +kernel
theorem dX7_isBelow_1 : decode cX7_isBelow 1 = .ok (.ifCond .lt 12, 3) := by decide +kernel
theorem dX7_isBelow_4 : decode cX7_isBelow 4 = .ok (.iload_n 0, 1) := by decide +kernel
theorem dX7_isBelow_5 : decode cX7_isBelow 5 = .ok (.iload_n 1, 1) := by decide +kernel
theorem dX7_isBelow_6 : decode cX7_isBelow 6 = .ok (.if_icmp .ge 7, 3) := by decide +kernel
theorem dX7_isBelow_9 : decode cX7_isBelow 9 = .ok (.iconst 1, 1) := by decide +kernel
theorem dX7_isBelow_10 : decode cX7_isBelow 10 = .ok (.goto 4, 3) := by decide +kernel
theorem dX7_isBelow_13 : decode cX7_isBelow 13 = .ok (.iconst 0, 1) := by decide +kernel
theorem dX7_isBelow_14 : decode cX7_isBelow 14 = .ok (.ireturn, 1) := by decide +kernel
theorem dX7_has_0 : decode cX7_has 0 = .ok (.iload_n 0, 1) := by decide +kernel
theorem dX7_has_1 : decode cX7_has 1 = .ok (.iload_n 1, 1) := by decide +kernel
theorem dX7_has_2 : decode cX7_has 2 = .ok (.ishr, 1) := by decide +kernel
theorem dX7_has_3 : decode cX7_has 3 = .ok (.iconst 1, 1) := by decide +kernel
theorem dX7_has_4 : decode cX7_has 4 = .ok (.iand, 1) := by decide +kernel
theorem dX7_has_5 : decode cX7_has 5 = .ok (.ifCond .eq 7, 3) := by decide +kernel
theorem dX7_has_8 : decode cX7_has 8 = .ok (.iconst 1, 1) := by decide +kernel
theorem dX7_has_9 : decode cX7_has 9 = .ok (.goto 4, 3) := by decide +kernel
theorem dX7_has_12 : decode cX7_has 12 = .ok (.iconst 0, 1) := by decide +kernel
theorem dX7_has_13 : decode cX7_has 13 = .ok (.ireturn, 1) := by decide +kernel
theorem dX7_odd_0 : decode cX7_odd 0 = .ok (.iload_n 0, 1) := by decide +kernel
theorem dX7_odd_1 : decode cX7_odd 1 = .ok (.iload_n 0, 1) := by decide +kernel
theorem dX7_odd_2 : decode cX7_odd 2 = .ok (.invokestatic 272, 3) := by decide +kernel
theorem dX7_odd_5 : decode cX7_odd 5 = .ok (.iconst 1, 1) := by decide +kernel
theorem dX7_odd_6 : decode cX7_odd 6 = .ok (.iadd, 1) := by decide +kernel
theorem dX7_odd_7 : decode cX7_odd 7 = .ok (.iconst 2, 1) := by decide +kernel
theorem dX7_odd_8 : decode cX7_odd 8 = .ok (.irem, 1) := by decide +kernel
theorem dX7_odd_9 : decode cX7_odd 9 = .ok (.ior, 1) := by decide +kernel
theorem dX7_odd_10 : decode cX7_odd 10 = .ok (.ireturn, 1) := by decide +kernel
theorem dX8_init_0 : decode cX8_init 0 = .ok (.aload_n 0, 1) := by decide +kernel
theorem dX8_init_1 : decode cX8_init 1 = .ok (.invokespecial 3, 3) := by decide +kernel
theorem dX8_init_4 : decode cX8_init 4 = .ok (.aload_n 0, 1) := by decide +kernel
theorem dX8_init_5 : decode cX8_init 5 = .ok (.iconst (-1), 1) := by decide +kernel
theorem dX8_init_6 : decode cX8_init 6 = .ok (.putfield 9, 3) := by decide +kernel
theorem dX8_init_9 : decode cX8_init 9 = .ok (.aload_n 0, 1) := by decide +kernel
theorem dX8_init_10 : decode cX8_init 10 = .ok (.sipush 700, 3) := by decide +kernel
theorem dX8_init_13 : decode cX8_init 13 = .ok (.newarray .int, 2) := by decide +kernel
theorem dX8_init_15 : decode cX8_init 15 = .ok (.putfield 13, 3) := by decide +kernel
theorem dX8_init_18 : decode cX8_init 18 = .ok (.aload_n 0, 1) := by decide +kernel
theorem dX8_init_19 : decode cX8_init 19 = .ok (.bipush 59, 2) := by decide +kernel
theorem dX8_init_21 : decode cX8_init 21 = .ok (.newarray .int, 2) := by decide +kernel
theorem dX8_init_23 : decode cX8_init 23 = .ok (.putfield 17, 3) := by decide +kernel
theorem dX8_init_26 : decode cX8_init 26 = .ok (.aload_n 0, 1) := by decide +kernel
theorem dX8_init_27 : decode cX8_init 27 = .ok (.bipush 59, 2) := by decide +kernel
theorem dX8_init_29 : decode cX8_init 29 = .ok (.newarray .int, 2) := by decide +kernel
theorem dX8_init_31 : decode cX8_init 31 = .ok (.putfield 20, 3) := by decide +kernel
theorem dX8_init_34 : decode cX8_init 34 = .ok (.aload_n 0, 1) := by decide +kernel
theorem dX8_init_35 : decode cX8_init 35 = .ok (.bipush 6, 2) := by decide +kernel
theorem dX8_init_37 : decode cX8_init 37 = .ok (.newarray .long, 2) := by decide +kernel
theorem dX8_init_39 : decode cX8_init 39 = .ok (.putfield 23, 3) := by decide +kernel
theorem dX8_init_42 : decode cX8_init 42 = .ok (.aload_n 0, 1) := by decide +kernel
theorem dX8_init_43 : decode cX8_init 43 = .ok (.sipush 251, 3) := by decide +kernel
theorem dX8_init_46 : decode cX8_init 46 = .ok (.newarray .int, 2) := by decide +kernel
theorem dX8_init_48 : decode cX8_init 48 = .ok (.putfield 27, 3) := by decide +kernel
theorem dX8_init_51 : decode cX8_init 51 = .ok (.aload_n 0, 1) := by decide +kernel
theorem dX8_init_52 : decode cX8_init 52 = .ok (.sipush 251, 3) := by decide +kernel
theorem dX8_init_55 : decode cX8_init 55 = .ok (.newarray .int, 2) := by decide +kernel
theorem dX8_init_57 : decode cX8_init 57 = .ok (.putfield 30, 3) := by decide +kernel
theorem dX8_init_60 : decode cX8_init 60 = .ok (.aload_n 0, 1) := by decide +kernel
theorem dX8_init_61 : decode cX8_init 61 = .ok (.sipush 251, 3) := by decide +kernel
theorem dX8_init_64 : decode cX8_init 64 = .ok (.newarray .int, 2) := by decide +kernel
theorem dX8_init_66 : decode cX8_init 66 = .ok (.putfield 33, 3) := by decide +kernel
theorem dX8_init_69 : decode cX8_init 69 = .ok (.aload_n 0, 1) := by decide +kernel
theorem dX8_init_70 : decode cX8_init 70 = .ok (.bipush 6, 2) := by decide +kernel
theorem dX8_init_72 : decode cX8_init 72 = .ok (.newarray .int, 2) := by decide +kernel
theorem dX8_init_74 : decode cX8_init 74 = .ok (.putfield 36, 3) := by decide +kernel
theorem dX8_init_77 : decode cX8_init 77 = .ok (.aload_n 0, 1) := by decide +kernel
theorem dX8_init_78 : decode cX8_init 78 = .ok (.sipush 2406, 3) := by decide +kernel
theorem dX8_init_81 : decode cX8_init 81 = .ok (.newarray .int, 2) := by decide +kernel
theorem dX8_init_83 : decode cX8_init 83 = .ok (.putfield 39, 3) := by decide +kernel
theorem dX8_init_86 : decode cX8_init 86 = .ok (.aload_n 0, 1) := by decide +kernel
theorem dX8_init_87 : decode cX8_init 87 = .ok (.sipush 2406, 3) := by decide +kernel
theorem dX8_init_90 : decode cX8_init 90 = .ok (.newarray .int, 2) := by decide +kernel
theorem dX8_init_92 : decode cX8_init 92 = .ok (.putfield 42, 3) := by decide +kernel
theorem dX8_init_95 : decode cX8_init 95 = .ok (.aload_n 0, 1) := by decide +kernel
theorem dX8_init_96 : decode cX8_init 96 = .ok (.sipush 2406, 3) := by decide +kernel
theorem dX8_init_99 : decode cX8_init 99 = .ok (.newarray .int, 2) := by decide +kernel
theorem dX8_init_101 : decode cX8_init 101 = .ok (.putfield 45, 3) := by decide +kernel
theorem dX8_init_104 : decode cX8_init 104 = .ok (.aload_n 0, 1) := by decide +kernel
theorem dX8_init_105 : decode cX8_init 105 = .ok (.sipush 2406, 3) := by decide +kernel
theorem dX8_init_108 : decode cX8_init 108 = .ok (.newarray .int, 2) := by decide +kernel
theorem dX8_init_110 : decode cX8_init 110 = .ok (.putfield 48, 3) := by decide +kernel
theorem dX8_init_113 : decode cX8_init 113 = .ok (.aload_n 0, 1) := by decide +kernel
theorem dX8_init_114 : decode cX8_init 114 = .ok (.sipush 2766, 3) := by decide +kernel
theorem dX8_init_117 : decode cX8_init 117 = .ok (.newarray .int, 2) := by decide +kernel
theorem dX8_init_119 : decode cX8_init 119 = .ok (.putfield 51, 3) := by decide +kernel
theorem dX8_init_122 : decode cX8_init 122 = .ok (.return_, 1) := by decide +kernel
theorem dX8_thrown_0 : decode cX8_thrown 0 = .ok (.aload_n 0, 1) := by decide +kernel
theorem dX8_thrown_1 : decode cX8_thrown 1 = .ok (.getfield 54, 3) := by decide +kernel
theorem dX8_thrown_4 : decode cX8_thrown 4 = .ok (.ireturn, 1) := by decide +kernel
theorem dX8_in_0 : decode cX8_in 0 = .ok (.iload_n 0, 1) := by decide +kernel
theorem dX8_in_1 : decode cX8_in 1 = .ok (.iload_n 1, 1) := by decide +kernel
theorem dX8_in_2 : decode cX8_in 2 = .ok (.if_icmp .lt 12, 3) := by decide +kernel
theorem dX8_in_5 : decode cX8_in 5 = .ok (.iload_n 0, 1) := by decide +kernel
theorem dX8_in_6 : decode cX8_in 6 = .ok (.iload_n 2, 1) := by decide +kernel
theorem dX8_in_7 : decode cX8_in 7 = .ok (.if_icmp .gt 7, 3) := by decide +kernel
theorem dX8_in_10 : decode cX8_in 10 = .ok (.iconst 1, 1) := by decide +kernel
theorem dX8_in_11 : decode cX8_in 11 = .ok (.goto 4, 3) := by decide +kernel
theorem dX8_in_14 : decode cX8_in 14 = .ok (.iconst 0, 1) := by decide +kernel
theorem dX8_in_15 : decode cX8_in 15 = .ok (.ireturn, 1) := by decide +kernel
theorem dX8_no_0 : decode cX8_no 0 = .ok (.aload_n 0, 1) := by decide +kernel
theorem dX8_no_1 : decode cX8_no 1 = .ok (.iload_n 1, 1) := by decide +kernel
theorem dX8_no_2 : decode cX8_no 2 = .ok (.putfield 57, 3) := by decide +kernel
theorem dX8_no_5 : decode cX8_no 5 = .ok (.iconst (-1), 1) := by decide +kernel
theorem dX8_no_6 : decode cX8_no 6 = .ok (.ireturn, 1) := by decide +kernel
theorem dX8_isRefused_0 : decode cX8_isRefused 0 = .ok (.aload_n 0, 1) := by decide +kernel
theorem dX8_isRefused_1 : decode cX8_isRefused 1 = .ok (.iconst 0, 1) := by decide +kernel
theorem dX8_isRefused_2 : decode cX8_isRefused 2 = .ok (.putfield 54, 3) := by decide +kernel
theorem dX8_isRefused_5 : decode cX8_isRefused 5 = .ok (.aload_n 0, 1) := by decide +kernel
theorem dX8_isRefused_6 : decode cX8_isRefused 6 = .ok (.iconst (-1), 1) := by decide +kernel
theorem dX8_isRefused_7 : decode cX8_isRefused 7 = .ok (.putfield 9, 3) := by decide +kernel
theorem dX8_isRefused_10 : decode cX8_isRefused 10 = .ok (.aload_n 0, 1) := by decide +kernel
theorem dX8_isRefused_11 : decode cX8_isRefused 11 = .ok (.iload_n 1, 1) := by decide +kernel
theorem dX8_isRefused_12 : decode cX8_isRefused 12 = .ok (.putfield 57, 3) := by decide +kernel
theorem dX8_isRefused_15 : decode cX8_isRefused 15 = .ok (.iload_n 1, 1) := by decide +kernel
theorem dX8_isRefused_16 : decode cX8_isRefused 16 = .ok (.ifCond .eq 7, 3) := by decide +kernel
theorem dX8_isRefused_19 : decode cX8_isRefused 19 = .ok (.iconst 1, 1) := by decide +kernel
theorem dX8_isRefused_20 : decode cX8_isRefused 20 = .ok (.goto 4, 3) := by decide +kernel
theorem dX8_isRefused_23 : decode cX8_isRefused 23 = .ok (.iconst 0, 1) := by decide +kernel
theorem dX8_isRefused_24 : decode cX8_isRefused 24 = .ok (.ireturn, 1) := by decide +kernel
theorem dX8_unless_0 : decode cX8_unless 0 = .ok (.iload_n 0, 1) := by decide +kernel
theorem dX8_unless_1 : decode cX8_unless 1 = .ok (.ifCond .eq 7, 3) := by decide +kernel
theorem dX8_unless_4 : decode cX8_unless 4 = .ok (.iconst 0, 1) := by decide +kernel
theorem dX8_unless_5 : decode cX8_unless 5 = .ok (.goto 4, 3) := by decide +kernel
theorem dX8_unless_8 : decode cX8_unless 8 = .ok (.iconst 1, 1) := by decide +kernel
theorem dX8_unless_9 : decode cX8_unless 9 = .ok (.ireturn, 1) := by decide +kernel
theorem dX8_feed_0 : decode cX8_feed 0 = .ok (.aload_n 0, 1) := by decide +kernel
theorem dX8_feed_1 : decode cX8_feed 1 = .ok (.iconst 0, 1) := by decide +kernel
theorem dX8_feed_2 : decode cX8_feed 2 = .ok (.putfield 54, 3) := by decide +kernel
theorem dX8_feed_5 : decode cX8_feed 5 = .ok (.aload_n 0, 1) := by decide +kernel
theorem dX8_feed_6 : decode cX8_feed 6 = .ok (.getfield 60, 3) := by decide +kernel
theorem dX8_feed_9 : decode cX8_feed 9 = .ok (.sipush 680, 3) := by decide +kernel
theorem dX8_feed_12 : decode cX8_feed 12 = .ok (.if_icmp .le 5, 3) := by decide +kernel
theorem dX8_feed_15 : decode cX8_feed 15 = .ok (.iconst (-1), 1) := by decide +kernel
theorem dX8_feed_16 : decode cX8_feed 16 = .ok (.ireturn, 1) := by decide +kernel
theorem dX8_feed_17 : decode cX8_feed 17 = .ok (.aload_n 0, 1) := by decide +kernel
theorem dX8_feed_18 : decode cX8_feed 18 = .ok (.iload_n 1, 1) := by decide +kernel
theorem dX8_feed_19 : decode cX8_feed 19 = .ok (.invokevirtual 63, 3) := by decide +kernel
theorem dX8_feed_22 : decode cX8_feed 22 = .ok (.aload_n 0, 1) := by decide +kernel
theorem dX8_feed_23 : decode cX8_feed 23 = .ok (.iload_n 2, 1) := by decide +kernel
theorem dX8_feed_24 : decode cX8_feed 24 = .ok (.invokevirtual 63, 3) := by decide +kernel
theorem dX8_feed_27 : decode cX8_feed 27 = .ok (.aload_n 0, 1) := by decide +kernel
theorem dX8_feed_28 : decode cX8_feed 28 = .ok (.iload_n 3, 1) := by decide +kernel
theorem dX8_feed_29 : decode cX8_feed 29 = .ok (.invokevirtual 63, 3) := by decide +kernel
theorem dX8_feed_32 : decode cX8_feed 32 = .ok (.aload_n 0, 1) := by decide +kernel
theorem dX8_feed_33 : decode cX8_feed 33 = .ok (.iload 4, 2) := by decide +kernel
theorem dX8_feed_35 : decode cX8_feed 35 = .ok (.invokevirtual 63, 3) := by decide +kernel
theorem dX8_feed_38 : decode cX8_feed 38 = .ok (.aload_n 0, 1) := by decide +kernel
theorem dX8_feed_39 : decode cX8_feed 39 = .ok (.iload 5, 2) := by decide +kernel
theorem dX8_feed_41 : decode cX8_feed 41 = .ok (.invokevirtual 63, 3) := by decide +kernel
theorem dX8_feed_44 : decode cX8_feed 44 = .ok (.aload_n 0, 1) := by decide +kernel
theorem dX8_feed_45 : decode cX8_feed 45 = .ok (.getfield 60, 3) := by decide +kernel
theorem dX8_feed_48 : decode cX8_feed 48 = .ok (.ireturn, 1) := by decide +kernel
theorem dX8_laysWord_0 : decode cX8_laysWord 0 = .ok (.iconst 0, 1) := by decide +kernel
theorem dX8_laysWord_1 : decode cX8_laysWord 1 = .ok (.istore_n 2, 1) := by decide +kernel
theorem dX8_laysWord_2 : decode cX8_laysWord 2 = .ok (.iload_n 2, 1) := by decide +kernel
theorem dX8_laysWord_3 : decode cX8_laysWord 3 = .ok (.iconst 4, 1) := by decide +kernel
theorem dX8_laysWord_4 : decode cX8_laysWord 4 = .ok (.if_icmp .ge 33, 3) := by decide +kernel
theorem dX8_laysWord_7 : decode cX8_laysWord 7 = .ok (.aload_n 0, 1) := by decide +kernel
theorem dX8_laysWord_8 : decode cX8_laysWord 8 = .ok (.getfield 13, 3) := by decide +kernel
theorem dX8_laysWord_11 : decode cX8_laysWord 11 = .ok (.aload_n 0, 1) := by decide +kernel
theorem dX8_laysWord_12 : decode cX8_laysWord 12 = .ok (.getfield 60, 3) := by decide +kernel
theorem dX8_laysWord_15 : decode cX8_laysWord 15 = .ok (.iload_n 2, 1) := by decide +kernel
theorem dX8_laysWord_16 : decode cX8_laysWord 16 = .ok (.iadd, 1) := by decide +kernel
theorem dX8_laysWord_17 : decode cX8_laysWord 17 = .ok (.iload_n 1, 1) := by decide +kernel
theorem dX8_laysWord_18 : decode cX8_laysWord 18 = .ok (.bipush 24, 2) := by decide +kernel
theorem dX8_laysWord_20 : decode cX8_laysWord 20 = .ok (.bipush 8, 2) := by decide +kernel
theorem dX8_laysWord_22 : decode cX8_laysWord 22 = .ok (.iload_n 2, 1) := by decide +kernel
theorem dX8_laysWord_23 : decode cX8_laysWord 23 = .ok (.imul, 1) := by decide +kernel
theorem dX8_laysWord_24 : decode cX8_laysWord 24 = .ok (.isub, 1) := by decide +kernel
theorem dX8_laysWord_25 : decode cX8_laysWord 25 = .ok (.ishr, 1) := by decide +kernel
theorem dX8_laysWord_26 : decode cX8_laysWord 26 = .ok (.sipush 255, 3) := by decide +kernel
theorem dX8_laysWord_29 : decode cX8_laysWord 29 = .ok (.iand, 1) := by decide +kernel
theorem dX8_laysWord_30 : decode cX8_laysWord 30 = .ok (.iastore, 1) := by decide +kernel
theorem dX8_laysWord_31 : decode cX8_laysWord 31 = .ok (.iinc 2 1, 3) := by decide +kernel
theorem dX8_laysWord_34 : decode cX8_laysWord 34 = .ok (.goto (-32), 3) := by decide +kernel
theorem dX8_laysWord_37 : decode cX8_laysWord 37 = .ok (.aload_n 0, 1) := by decide +kernel
theorem dX8_laysWord_38 : decode cX8_laysWord 38 = .ok (.dup, 1) := by decide +kernel
theorem dX8_laysWord_39 : decode cX8_laysWord 39 = .ok (.getfield 60, 3) := by decide +kernel
theorem dX8_laysWord_42 : decode cX8_laysWord 42 = .ok (.iconst 4, 1) := by decide +kernel
theorem dX8_laysWord_43 : decode cX8_laysWord 43 = .ok (.iadd, 1) := by decide +kernel
theorem dX8_laysWord_44 : decode cX8_laysWord 44 = .ok (.putfield 60, 3) := by decide +kernel
theorem dX8_laysWord_47 : decode cX8_laysWord 47 = .ok (.return_, 1) := by decide +kernel
theorem dX8_see_0 : decode cX8_see 0 = .ok (.iload_n 1, 1) := by decide +kernel
theorem dX8_see_1 : decode cX8_see 1 = .ok (.aload_n 0, 1) := by decide +kernel
theorem dX8_see_2 : decode cX8_see 2 = .ok (.getfield 67, 3) := by decide +kernel
theorem dX8_see_5 : decode cX8_see 5 = .ok (.if_icmp .ge 12, 3) := by decide +kernel
theorem dX8_see_8 : decode cX8_see 8 = .ok (.aload_n 0, 1) := by decide +kernel
theorem dX8_see_9 : decode cX8_see 9 = .ok (.getfield 13, 3) := by decide +kernel
theorem dX8_see_12 : decode cX8_see 12 = .ok (.iload_n 1, 1) := by decide +kernel
theorem dX8_see_13 : decode cX8_see 13 = .ok (.iaload, 1) := by decide +kernel
theorem dX8_see_14 : decode cX8_see 14 = .ok (.goto 4, 3) := by decide +kernel
theorem dX8_see_17 : decode cX8_see 17 = .ok (.iconst (-1), 1) := by decide +kernel
theorem dX8_see_18 : decode cX8_see 18 = .ok (.ireturn, 1) := by decide +kernel
theorem dX8_goesOn_0 : decode cX8_goesOn 0 = .ok (.aload_n 0, 1) := by decide +kernel
theorem dX8_goesOn_1 : decode cX8_goesOn 1 = .ok (.aload_n 0, 1) := by decide +kernel
theorem dX8_goesOn_2 : decode cX8_goesOn 2 = .ok (.getfield 70, 3) := by decide +kernel
theorem dX8_goesOn_5 : decode cX8_goesOn 5 = .ok (.invokevirtual 73, 3) := by decide +kernel
theorem dX8_goesOn_8 : decode cX8_goesOn 8 = .ok (.bipush 32, 2) := by decide +kernel
theorem dX8_goesOn_10 : decode cX8_goesOn 10 = .ok (.if_icmp .ne 16, 3) := by decide +kernel
theorem dX8_goesOn_13 : decode cX8_goesOn 13 = .ok (.aload_n 0, 1) := by decide +kernel
theorem dX8_goesOn_14 : decode cX8_goesOn 14 = .ok (.dup, 1) := by decide +kernel
theorem dX8_goesOn_15 : decode cX8_goesOn 15 = .ok (.getfield 70, 3) := by decide +kernel
theorem dX8_goesOn_18 : decode cX8_goesOn 18 = .ok (.iconst 1, 1) := by decide +kernel
theorem dX8_goesOn_19 : decode cX8_goesOn 19 = .ok (.iadd, 1) := by decide +kernel
theorem dX8_goesOn_20 : decode cX8_goesOn 20 = .ok (.putfield 70, 3) := by decide +kernel
theorem dX8_goesOn_23 : decode cX8_goesOn 23 = .ok (.goto (-23), 3) := by decide +kernel
theorem dX8_goesOn_26 : decode cX8_goesOn 26 = .ok (.aload_n 0, 1) := by decide +kernel
theorem dX8_goesOn_27 : decode cX8_goesOn 27 = .ok (.aload_n 0, 1) := by decide +kernel
theorem dX8_goesOn_28 : decode cX8_goesOn 28 = .ok (.getfield 70, 3) := by decide +kernel
theorem dX8_goesOn_31 : decode cX8_goesOn 31 = .ok (.putfield 77, 3) := by decide +kernel
theorem dX8_goesOn_34 : decode cX8_goesOn 34 = .ok (.aload_n 0, 1) := by decide +kernel
theorem dX8_goesOn_35 : decode cX8_goesOn 35 = .ok (.aload_n 0, 1) := by decide +kernel
theorem dX8_goesOn_36 : decode cX8_goesOn 36 = .ok (.getfield 70, 3) := by decide +kernel
theorem dX8_goesOn_39 : decode cX8_goesOn 39 = .ok (.invokevirtual 73, 3) := by decide +kernel
theorem dX8_goesOn_42 : decode cX8_goesOn 42 = .ok (.istore_n 1, 1) := by decide +kernel
theorem dX8_goesOn_43 : decode cX8_goesOn 43 = .ok (.iload_n 1, 1) := by decide +kernel
theorem dX8_goesOn_44 : decode cX8_goesOn 44 = .ok (.iconst (-1), 1) := by decide +kernel
theorem dX8_goesOn_45 : decode cX8_goesOn 45 = .ok (.if_icmp .ne 9, 3) := by decide +kernel
theorem dX8_goesOn_48 : decode cX8_goesOn 48 = .ok (.aload_n 0, 1) := by decide +kernel
theorem dX8_goesOn_49 : decode cX8_goesOn 49 = .ok (.iconst 0, 1) := by decide +kernel
theorem dX8_goesOn_50 : decode cX8_goesOn 50 = .ok (.putfield 80, 3) := by decide +kernel
theorem dX8_goesOn_53 : decode cX8_goesOn 53 = .ok (.return_, 1) := by decide +kernel
theorem dX8_goesOn_54 : decode cX8_goesOn 54 = .ok (.iload_n 1, 1) := by decide +kernel
theorem dX8_goesOn_55 : decode cX8_goesOn 55 = .ok (.bipush 97, 2) := by decide +kernel
theorem dX8_goesOn_57 : decode cX8_goesOn 57 = .ok (.bipush 122, 2) := by decide +kernel
theorem dX8_goesOn_59 : decode cX8_goesOn 59 = .ok (.invokestatic 83, 3) := by decide +kernel
theorem dX8_goesOn_62 : decode cX8_goesOn 62 = .ok (.ifCond .eq 58, 3) := by decide +kernel
theorem dX8_goesOn_65 : decode cX8_goesOn 65 = .ok (.aload_n 0, 1) := by decide +kernel
theorem dX8_goesOn_66 : decode cX8_goesOn 66 = .ok (.aload_n 0, 1) := by decide +kernel
theorem dX8_goesOn_67 : decode cX8_goesOn 67 = .ok (.getfield 70, 3) := by decide +kernel
theorem dX8_goesOn_70 : decode cX8_goesOn 70 = .ok (.invokevirtual 73, 3) := by decide +kernel
theorem dX8_goesOn_73 : decode cX8_goesOn 73 = .ok (.bipush 97, 2) := by decide +kernel
theorem dX8_goesOn_75 : decode cX8_goesOn 75 = .ok (.bipush 122, 2) := by decide +kernel
theorem dX8_goesOn_77 : decode cX8_goesOn 77 = .ok (.invokestatic 83, 3) := by decide +kernel
theorem dX8_goesOn_80 : decode cX8_goesOn 80 = .ok (.ifCond .eq 16, 3) := by decide +kernel
theorem dX8_goesOn_83 : decode cX8_goesOn 83 = .ok (.aload_n 0, 1) := by decide +kernel
theorem dX8_goesOn_84 : decode cX8_goesOn 84 = .ok (.dup, 1) := by decide +kernel
theorem dX8_goesOn_85 : decode cX8_goesOn 85 = .ok (.getfield 70, 3) := by decide +kernel
theorem dX8_goesOn_88 : decode cX8_goesOn 88 = .ok (.iconst 1, 1) := by decide +kernel
theorem dX8_goesOn_89 : decode cX8_goesOn 89 = .ok (.iadd, 1) := by decide +kernel
theorem dX8_goesOn_90 : decode cX8_goesOn 90 = .ok (.putfield 70, 3) := by decide +kernel
theorem dX8_goesOn_93 : decode cX8_goesOn 93 = .ok (.goto (-28), 3) := by decide +kernel
theorem dX8_goesOn_96 : decode cX8_goesOn 96 = .ok (.aload_n 0, 1) := by decide +kernel
theorem dX8_goesOn_97 : decode cX8_goesOn 97 = .ok (.aload_n 0, 1) := by decide +kernel
theorem dX8_goesOn_98 : decode cX8_goesOn 98 = .ok (.getfield 70, 3) := by decide +kernel
theorem dX8_goesOn_101 : decode cX8_goesOn 101 = .ok (.aload_n 0, 1) := by decide +kernel
theorem dX8_goesOn_102 : decode cX8_goesOn 102 = .ok (.getfield 77, 3) := by decide +kernel
theorem dX8_goesOn_105 : decode cX8_goesOn 105 = .ok (.isub, 1) := by decide +kernel
theorem dX8_goesOn_106 : decode cX8_goesOn 106 = .ok (.bipush 6, 2) := by decide +kernel
theorem dX8_goesOn_108 : decode cX8_goesOn 108 = .ok (.if_icmp .le 7, 3) := by decide +kernel
theorem dX8_goesOn_111 : decode cX8_goesOn 111 = .ok (.iconst 1, 1) := by decide +kernel
theorem dX8_goesOn_112 : decode cX8_goesOn 112 = .ok (.goto 4, 3) := by decide +kernel
theorem dX8_goesOn_115 : decode cX8_goesOn 115 = .ok (.iconst 2, 1) := by decide +kernel
theorem dX8_goesOn_116 : decode cX8_goesOn 116 = .ok (.putfield 80, 3) := by decide +kernel
theorem dX8_goesOn_119 : decode cX8_goesOn 119 = .ok (.return_, 1) := by decide +kernel
theorem dX8_goesOn_120 : decode cX8_goesOn 120 = .ok (.iload_n 1, 1) := by decide +kernel
theorem dX8_goesOn_121 : decode cX8_goesOn 121 = .ok (.bipush 48, 2) := by decide +kernel
theorem dX8_goesOn_123 : decode cX8_goesOn 123 = .ok (.bipush 57, 2) := by decide +kernel
theorem dX8_goesOn_125 : decode cX8_goesOn 125 = .ok (.invokestatic 83, 3) := by decide +kernel
theorem dX8_goesOn_128 : decode cX8_goesOn 128 = .ok (.ifCond .eq 105, 3) := by decide +kernel
theorem dX8_goesOn_131 : decode cX8_goesOn 131 = .ok (.aload_n 0, 1) := by decide +kernel
theorem dX8_goesOn_132 : decode cX8_goesOn 132 = .ok (.iconst 0, 1) := by decide +kernel
theorem dX8_goesOn_133 : decode cX8_goesOn 133 = .ok (.putfield 87, 3) := by decide +kernel
theorem dX8_goesOn_136 : decode cX8_goesOn 136 = .ok (.aload_n 0, 1) := by decide +kernel
theorem dX8_goesOn_137 : decode cX8_goesOn 137 = .ok (.aload_n 0, 1) := by decide +kernel
theorem dX8_goesOn_138 : decode cX8_goesOn 138 = .ok (.getfield 70, 3) := by decide +kernel
theorem dX8_goesOn_141 : decode cX8_goesOn 141 = .ok (.invokevirtual 73, 3) := by decide +kernel
theorem dX8_goesOn_144 : decode cX8_goesOn 144 = .ok (.bipush 48, 2) := by decide +kernel
theorem dX8_goesOn_146 : decode cX8_goesOn 146 = .ok (.bipush 57, 2) := by decide +kernel
theorem dX8_goesOn_148 : decode cX8_goesOn 148 = .ok (.invokestatic 83, 3) := by decide +kernel
theorem dX8_goesOn_151 : decode cX8_goesOn 151 = .ok (.ifCond .eq 59, 3) := by decide +kernel
theorem dX8_goesOn_154 : decode cX8_goesOn 154 = .ok (.aload_n 0, 1) := by decide +kernel
theorem dX8_goesOn_155 : decode cX8_goesOn 155 = .ok (.aload_n 0, 1) := by decide +kernel
theorem dX8_goesOn_156 : decode cX8_goesOn 156 = .ok (.getfield 70, 3) := by decide +kernel
theorem dX8_goesOn_159 : decode cX8_goesOn 159 = .ok (.aload_n 0, 1) := by decide +kernel
theorem dX8_goesOn_160 : decode cX8_goesOn 160 = .ok (.getfield 77, 3) := by decide +kernel
theorem dX8_goesOn_163 : decode cX8_goesOn 163 = .ok (.isub, 1) := by decide +kernel
theorem dX8_goesOn_164 : decode cX8_goesOn 164 = .ok (.iconst 3, 1) := by decide +kernel
theorem dX8_goesOn_165 : decode cX8_goesOn 165 = .ok (.if_icmp .ge 25, 3) := by decide +kernel
theorem dX8_goesOn_168 : decode cX8_goesOn 168 = .ok (.bipush 10, 2) := by decide +kernel
theorem dX8_goesOn_170 : decode cX8_goesOn 170 = .ok (.aload_n 0, 1) := by decide +kernel
theorem dX8_goesOn_171 : decode cX8_goesOn 171 = .ok (.getfield 87, 3) := by decide +kernel
theorem dX8_goesOn_174 : decode cX8_goesOn 174 = .ok (.imul, 1) := by decide +kernel
theorem dX8_goesOn_175 : decode cX8_goesOn 175 = .ok (.aload_n 0, 1) := by decide +kernel
theorem dX8_goesOn_176 : decode cX8_goesOn 176 = .ok (.aload_n 0, 1) := by decide +kernel
theorem dX8_goesOn_177 : decode cX8_goesOn 177 = .ok (.getfield 70, 3) := by decide +kernel
theorem dX8_goesOn_180 : decode cX8_goesOn 180 = .ok (.invokevirtual 73, 3) := by decide +kernel
theorem dX8_goesOn_183 : decode cX8_goesOn 183 = .ok (.iadd, 1) := by decide +kernel
theorem dX8_goesOn_184 : decode cX8_goesOn 184 = .ok (.bipush 48, 2) := by decide +kernel
theorem dX8_goesOn_186 : decode cX8_goesOn 186 = .ok (.isub, 1) := by decide +kernel
theorem dX8_goesOn_187 : decode cX8_goesOn 187 = .ok (.goto 7, 3) := by decide +kernel
theorem dX8_goesOn_190 : decode cX8_goesOn 190 = .ok (.aload_n 0, 1) := by decide +kernel
theorem dX8_goesOn_191 : decode cX8_goesOn 191 = .ok (.getfield 87, 3) := by decide +kernel
theorem dX8_goesOn_194 : decode cX8_goesOn 194 = .ok (.putfield 87, 3) := by decide +kernel
theorem dX8_goesOn_197 : decode cX8_goesOn 197 = .ok (.aload_n 0, 1) := by decide +kernel
theorem dX8_goesOn_198 : decode cX8_goesOn 198 = .ok (.dup, 1) := by decide +kernel
theorem dX8_goesOn_199 : decode cX8_goesOn 199 = .ok (.getfield 70, 3) := by decide +kernel
theorem dX8_goesOn_202 : decode cX8_goesOn 202 = .ok (.iconst 1, 1) := by decide +kernel
theorem dX8_goesOn_203 : decode cX8_goesOn 203 = .ok (.iadd, 1) := by decide +kernel
theorem dX8_goesOn_204 : decode cX8_goesOn 204 = .ok (.putfield 70, 3) := by decide +kernel
theorem dX8_goesOn_207 : decode cX8_goesOn 207 = .ok (.goto (-71), 3) := by decide +kernel
theorem dX8_goesOn_210 : decode cX8_goesOn 210 = .ok (.aload_n 0, 1) := by decide +kernel
theorem dX8_goesOn_211 : decode cX8_goesOn 211 = .ok (.aload_n 0, 1) := by decide +kernel
theorem dX8_goesOn_212 : decode cX8_goesOn 212 = .ok (.getfield 70, 3) := by decide +kernel
theorem dX8_goesOn_215 : decode cX8_goesOn 215 = .ok (.aload_n 0, 1) := by decide +kernel
theorem dX8_goesOn_216 : decode cX8_goesOn 216 = .ok (.getfield 77, 3) := by decide +kernel
theorem dX8_goesOn_219 : decode cX8_goesOn 219 = .ok (.isub, 1) := by decide +kernel
theorem dX8_goesOn_220 : decode cX8_goesOn 220 = .ok (.iconst 3, 1) := by decide +kernel
theorem dX8_goesOn_221 : decode cX8_goesOn 221 = .ok (.if_icmp .le 7, 3) := by decide +kernel
theorem dX8_goesOn_224 : decode cX8_goesOn 224 = .ok (.iconst 1, 1) := by decide +kernel
theorem dX8_goesOn_225 : decode cX8_goesOn 225 = .ok (.goto 4, 3) := by decide +kernel
theorem dX8_goesOn_228 : decode cX8_goesOn 228 = .ok (.iconst 3, 1) := by decide +kernel
theorem dX8_goesOn_229 : decode cX8_goesOn 229 = .ok (.putfield 80, 3) := by decide +kernel
theorem dX8_goesOn_232 : decode cX8_goesOn 232 = .ok (.return_, 1) := by decide +kernel
theorem dX8_goesOn_233 : decode cX8_goesOn 233 = .ok (.aload_n 0, 1) := by decide +kernel
theorem dX8_goesOn_234 : decode cX8_goesOn 234 = .ok (.dup, 1) := by decide +kernel
theorem dX8_goesOn_235 : decode cX8_goesOn 235 = .ok (.getfield 70, 3) := by decide +kernel
theorem dX8_goesOn_238 : decode cX8_goesOn 238 = .ok (.iconst 1, 1) := by decide +kernel
theorem dX8_goesOn_239 : decode cX8_goesOn 239 = .ok (.iadd, 1) := by decide +kernel
theorem dX8_goesOn_240 : decode cX8_goesOn 240 = .ok (.putfield 70, 3) := by decide +kernel
theorem dX8_goesOn_243 : decode cX8_goesOn 243 = .ok (.aload_n 0, 1) := by decide +kernel
theorem dX8_goesOn_244 : decode cX8_goesOn 244 = .ok (.iload_n 1, 1) := by decide +kernel
theorem dX8_goesOn_245 : decode cX8_goesOn 245 = .ok (.bipush 59, 2) := by decide +kernel
theorem dX8_goesOn_247 : decode cX8_goesOn 247 = .ok (.if_icmp .ne 7, 3) := by decide +kernel
theorem dX8_goesOn_250 : decode cX8_goesOn 250 = .ok (.iload_n 1, 1) := by decide +kernel
theorem dX8_goesOn_251 : decode cX8_goesOn 251 = .ok (.goto 4, 3) := by decide +kernel
theorem dX8_goesOn_254 : decode cX8_goesOn 254 = .ok (.iconst 1, 1) := by decide +kernel
theorem dX8_goesOn_255 : decode cX8_goesOn 255 = .ok (.putfield 80, 3) := by decide +kernel
theorem dX8_goesOn_258 : decode cX8_goesOn 258 = .ok (.return_, 1) := by decide +kernel
theorem dX8_isWord_0 : decode cX8_isWord 0 = .ok (.aload_n 0, 1) := by decide +kernel
theorem dX8_isWord_1 : decode cX8_isWord 1 = .ok (.getfield 80, 3) := by decide +kernel
theorem dX8_isWord_4 : decode cX8_isWord 4 = .ok (.iconst 2, 1) := by decide +kernel
theorem dX8_isWord_5 : decode cX8_isWord 5 = .ok (.if_icmp .ne 19, 3) := by decide +kernel
theorem dX8_isWord_8 : decode cX8_isWord 8 = .ok (.aload_n 0, 1) := by decide +kernel
theorem dX8_isWord_9 : decode cX8_isWord 9 = .ok (.getfield 70, 3) := by decide +kernel
theorem dX8_isWord_12 : decode cX8_isWord 12 = .ok (.aload_n 0, 1) := by decide +kernel
theorem dX8_isWord_13 : decode cX8_isWord 13 = .ok (.getfield 77, 3) := by decide +kernel
theorem dX8_isWord_16 : decode cX8_isWord 16 = .ok (.isub, 1) := by decide +kernel
theorem dX8_isWord_17 : decode cX8_isWord 17 = .ok (.aload_n 1, 1) := by decide +kernel
theorem dX8_isWord_18 : decode cX8_isWord 18 = .ok (.invokevirtual 90, 3) := by decide +kernel
theorem dX8_isWord_21 : decode cX8_isWord 21 = .ok (.if_icmp .eq 5, 3) := by decide +kernel
theorem dX8_isWord_24 : decode cX8_isWord 24 = .ok (.iconst 0, 1) := by decide +kernel
theorem dX8_isWord_25 : decode cX8_isWord 25 = .ok (.ireturn, 1) := by decide +kernel
theorem dX8_isWord_26 : decode cX8_isWord 26 = .ok (.iconst 0, 1) := by decide +kernel
theorem dX8_isWord_27 : decode cX8_isWord 27 = .ok (.istore_n 2, 1) := by decide +kernel
theorem dX8_isWord_28 : decode cX8_isWord 28 = .ok (.iload_n 2, 1) := by decide +kernel
theorem dX8_isWord_29 : decode cX8_isWord 29 = .ok (.aload_n 1, 1) := by decide +kernel
theorem dX8_isWord_30 : decode cX8_isWord 30 = .ok (.invokevirtual 90, 3) := by decide +kernel
theorem dX8_isWord_33 : decode cX8_isWord 33 = .ok (.if_icmp .ge 30, 3) := by decide +kernel
theorem dX8_isWord_36 : decode cX8_isWord 36 = .ok (.aload_n 0, 1) := by decide +kernel
theorem dX8_isWord_37 : decode cX8_isWord 37 = .ok (.getfield 13, 3) := by decide +kernel
theorem dX8_isWord_40 : decode cX8_isWord 40 = .ok (.aload_n 0, 1) := by decide +kernel
theorem dX8_isWord_41 : decode cX8_isWord 41 = .ok (.getfield 77, 3) := by decide +kernel
theorem dX8_isWord_44 : decode cX8_isWord 44 = .ok (.iload_n 2, 1) := by decide +kernel
theorem dX8_isWord_45 : decode cX8_isWord 45 = .ok (.iadd, 1) := by decide +kernel
theorem dX8_isWord_46 : decode cX8_isWord 46 = .ok (.iaload, 1) := by decide +kernel
theorem dX8_isWord_47 : decode cX8_isWord 47 = .ok (.aload_n 1, 1) := by decide +kernel
theorem dX8_isWord_48 : decode cX8_isWord 48 = .ok (.iload_n 2, 1) := by decide +kernel
theorem dX8_isWord_49 : decode cX8_isWord 49 = .ok (.invokevirtual 96, 3) := by decide +kernel
theorem dX8_isWord_52 : decode cX8_isWord 52 = .ok (.if_icmp .eq 5, 3) := by decide +kernel
theorem dX8_isWord_55 : decode cX8_isWord 55 = .ok (.iconst 0, 1) := by decide +kernel
theorem dX8_isWord_56 : decode cX8_isWord 56 = .ok (.ireturn, 1) := by decide +kernel
theorem dX8_isWord_57 : decode cX8_isWord 57 = .ok (.iinc 2 1, 3) := by decide +kernel
theorem dX8_isWord_60 : decode cX8_isWord 60 = .ok (.goto (-32), 3) := by decide +kernel
theorem dX8_isWord_63 : decode cX8_isWord 63 = .ok (.iconst 1, 1) := by decide +kernel
theorem dX8_isWord_64 : decode cX8_isWord 64 = .ok (.ireturn, 1) := by decide +kernel
theorem dX8_errs_0 : decode cX8_errs 0 = .ok (.aload_n 0, 1) := by decide +kernel
theorem dX8_errs_1 : decode cX8_errs 1 = .ok (.iload_n 1, 1) := by decide +kernel
theorem dX8_errs_2 : decode cX8_errs 2 = .ok (.putfield 100, 3) := by decide +kernel
theorem dX8_errs_5 : decode cX8_errs 5 = .ok (.aload_n 0, 1) := by decide +kernel
theorem dX8_errs_6 : decode cX8_errs 6 = .ok (.aload_n 0, 1) := by decide +kernel
theorem dX8_errs_7 : decode cX8_errs 7 = .ok (.getfield 77, 3) := by decide +kernel
theorem dX8_errs_10 : decode cX8_errs 10 = .ok (.putfield 103, 3) := by decide +kernel
theorem dX8_errs_13 : decode cX8_errs 13 = .ok (.iconst 0, 1) := by decide +kernel
theorem dX8_errs_14 : decode cX8_errs 14 = .ok (.ireturn, 1) := by decide +kernel
theorem dX8_lays_0 : decode cX8_lays 0 = .ok (.aload_n 0, 1) := by decide +kernel
theorem dX8_lays_1 : decode cX8_lays 1 = .ok (.getfield 80, 3) := by decide +kernel
theorem dX8_lays_4 : decode cX8_lays 4 = .ok (.iconst 3, 1) := by decide +kernel
theorem dX8_lays_5 : decode cX8_lays 5 = .ok (.if_icmp .eq 9, 3) := by decide +kernel
theorem dX8_lays_8 : decode cX8_lays 8 = .ok (.aload_n 0, 1) := by decide +kernel
theorem dX8_lays_9 : decode cX8_lays 9 = .ok (.iconst 1, 1) := by decide +kernel
theorem dX8_lays_10 : decode cX8_lays 10 = .ok (.invokevirtual 106, 3) := by decide +kernel
theorem dX8_lays_13 : decode cX8_lays 13 = .ok (.ireturn, 1) := by decide +kernel
theorem dX8_lays_14 : decode cX8_lays 14 = .ok (.aload_n 0, 1) := by decide +kernel
theorem dX8_lays_15 : decode cX8_lays 15 = .ok (.getfield 87, 3) := by decide +kernel
theorem dX8_lays_18 : decode cX8_lays 18 = .ok (.iload_n 2, 1) := by decide +kernel
theorem dX8_lays_19 : decode cX8_lays 19 = .ok (.iload_n 3, 1) := by decide +kernel
theorem dX8_lays_20 : decode cX8_lays 20 = .ok (.invokestatic 83, 3) := by decide +kernel
theorem dX8_lays_23 : decode cX8_lays 23 = .ok (.ifCond .ne 9, 3) := by decide +kernel
theorem dX8_lays_26 : decode cX8_lays 26 = .ok (.aload_n 0, 1) := by decide +kernel
theorem dX8_lays_27 : decode cX8_lays 27 = .ok (.iconst 4, 1) := by decide +kernel
theorem dX8_lays_28 : decode cX8_lays 28 = .ok (.invokevirtual 106, 3) := by decide +kernel
theorem dX8_lays_31 : decode cX8_lays 31 = .ok (.ireturn, 1) := by decide +kernel
theorem dX8_lays_32 : decode cX8_lays 32 = .ok (.aload_n 0, 1) := by decide +kernel
theorem dX8_lays_33 : decode cX8_lays 33 = .ok (.getfield 20, 3) := by decide +kernel
theorem dX8_lays_36 : decode cX8_lays 36 = .ok (.iload_n 1, 1) := by decide +kernel
theorem dX8_lays_37 : decode cX8_lays 37 = .ok (.aload_n 0, 1) := by decide +kernel
theorem dX8_lays_38 : decode cX8_lays 38 = .ok (.getfield 87, 3) := by decide +kernel
theorem dX8_lays_41 : decode cX8_lays 41 = .ok (.iastore, 1) := by decide +kernel
theorem dX8_lays_42 : decode cX8_lays 42 = .ok (.aload_n 0, 1) := by decide +kernel
theorem dX8_lays_43 : decode cX8_lays 43 = .ok (.invokevirtual 110, 3) := by decide +kernel
theorem dX8_lays_46 : decode cX8_lays 46 = .ok (.iconst 1, 1) := by decide +kernel
theorem dX8_lays_47 : decode cX8_lays 47 = .ok (.ireturn, 1) := by decide +kernel
theorem dX8_after_0 : decode cX8_after 0 = .ok (.aload_n 0, 1) := by decide +kernel
theorem dX8_after_1 : decode cX8_after 1 = .ok (.aload_n 1, 1) := by decide +kernel
theorem dX8_after_2 : decode cX8_after 2 = .ok (.invokevirtual 113, 3) := by decide +kernel
theorem dX8_after_5 : decode cX8_after 5 = .ok (.ifCond .ne 9, 3) := by decide +kernel
theorem dX8_after_8 : decode cX8_after 8 = .ok (.aload_n 0, 1) := by decide +kernel
theorem dX8_after_9 : decode cX8_after 9 = .ok (.iconst 1, 1) := by decide +kernel
theorem dX8_after_10 : decode cX8_after 10 = .ok (.invokevirtual 106, 3) := by decide +kernel
theorem dX8_after_13 : decode cX8_after 13 = .ok (.ireturn, 1) := by decide +kernel
theorem dX8_after_14 : decode cX8_after 14 = .ok (.aload_n 0, 1) := by decide +kernel
theorem dX8_after_15 : decode cX8_after 15 = .ok (.invokevirtual 110, 3) := by decide +kernel
theorem dX8_after_18 : decode cX8_after 18 = .ok (.aload_n 0, 1) := by decide +kernel
theorem dX8_after_19 : decode cX8_after 19 = .ok (.iload_n 2, 1) := by decide +kernel
theorem dX8_after_20 : decode cX8_after 20 = .ok (.iload_n 3, 1) := by decide +kernel
theorem dX8_after_21 : decode cX8_after 21 = .ok (.iload 4, 2) := by decide +kernel
theorem dX8_after_23 : decode cX8_after 23 = .ok (.invokevirtual 117, 3) := by decide +kernel
theorem dX8_after_26 : decode cX8_after 26 = .ok (.ireturn, 1) := by decide +kernel
theorem dX8_isName_0 : decode cX8_isName 0 = .ok (.aload_n 0, 1) := by decide +kernel
theorem dX8_isName_1 : decode cX8_isName 1 = .ok (.getfield 80, 3) := by decide +kernel
theorem dX8_isName_4 : decode cX8_isName 4 = .ok (.iconst 2, 1) := by decide +kernel
theorem dX8_isName_5 : decode cX8_isName 5 = .ok (.if_icmp .ne 34, 3) := by decide +kernel
theorem dX8_isName_8 : decode cX8_isName 8 = .ok (.aload_n 0, 1) := by decide +kernel
theorem dX8_isName_9 : decode cX8_isName 9 = .ok (.ldc 120, 2) := by decide +kernel
theorem dX8_isName_11 : decode cX8_isName 11 = .ok (.invokevirtual 113, 3) := by decide +kernel
theorem dX8_isName_14 : decode cX8_isName 14 = .ok (.ifCond .ne 25, 3) := by decide +kernel
theorem dX8_isName_17 : decode cX8_isName 17 = .ok (.aload_n 0, 1) := by decide +kernel
theorem dX8_isName_18 : decode cX8_isName 18 = .ok (.ldc 122, 2) := by decide +kernel
theorem dX8_isName_20 : decode cX8_isName 20 = .ok (.invokevirtual 113, 3) := by decide +kernel
theorem dX8_isName_23 : decode cX8_isName 23 = .ok (.ifCond .ne 16, 3) := by decide +kernel
theorem dX8_isName_26 : decode cX8_isName 26 = .ok (.aload_n 0, 1) := by decide +kernel
theorem dX8_isName_27 : decode cX8_isName 27 = .ok (.ldc 124, 2) := by decide +kernel
theorem dX8_isName_29 : decode cX8_isName 29 = .ok (.invokevirtual 113, 3) := by decide +kernel
theorem dX8_isName_32 : decode cX8_isName 32 = .ok (.ifCond .ne 7, 3) := by decide +kernel
theorem dX8_isName_35 : decode cX8_isName 35 = .ok (.iconst 1, 1) := by decide +kernel
theorem dX8_isName_36 : decode cX8_isName 36 = .ok (.goto 4, 3) := by decide +kernel
theorem dX8_isName_39 : decode cX8_isName 39 = .ok (.iconst 0, 1) := by decide +kernel
theorem dX8_isName_40 : decode cX8_isName 40 = .ok (.ireturn, 1) := by decide +kernel
theorem dX8_spelt_0 : decode cX8_spelt 0 = .ok (.lconst 0, 1) := by decide +kernel
theorem dX8_spelt_1 : decode cX8_spelt 1 = .ok (.lstore_n 1, 1) := by decide +kernel
theorem dX8_spelt_2 : decode cX8_spelt 2 = .ok (.aload_n 0, 1) := by decide +kernel
theorem dX8_spelt_3 : decode cX8_spelt 3 = .ok (.getfield 77, 3) := by decide +kernel
theorem dX8_spelt_6 : decode cX8_spelt 6 = .ok (.istore_n 3, 1) := by decide +kernel
theorem dX8_spelt_7 : decode cX8_spelt 7 = .ok (.iload_n 3, 1) := by decide +kernel
theorem dX8_spelt_8 : decode cX8_spelt 8 = .ok (.aload_n 0, 1) := by decide +kernel
theorem dX8_spelt_9 : decode cX8_spelt 9 = .ok (.getfield 70, 3) := by decide +kernel
theorem dX8_spelt_12 : decode cX8_spelt 12 = .ok (.if_icmp .ge 27, 3) := by decide +kernel
theorem dX8_spelt_15 : decode cX8_spelt 15 = .ok (.ldc2_w 126, 3) := by decide +kernel
theorem dX8_spelt_18 : decode cX8_spelt 18 = .ok (.lload_n 1, 1) := by decide +kernel
theorem dX8_spelt_19 : decode cX8_spelt 19 = .ok (.lmul, 1) := by decide +kernel
theorem dX8_spelt_20 : decode cX8_spelt 20 = .ok (.aload_n 0, 1) := by decide +kernel
theorem dX8_spelt_21 : decode cX8_spelt 21 = .ok (.getfield 13, 3) := by decide +kernel
theorem dX8_spelt_24 : decode cX8_spelt 24 = .ok (.iload_n 3, 1) := by decide +kernel
theorem dX8_spelt_25 : decode cX8_spelt 25 = .ok (.iaload, 1) := by decide +kernel
theorem dX8_spelt_26 : decode cX8_spelt 26 = .ok (.i2l, 1) := by decide +kernel
theorem dX8_spelt_27 : decode cX8_spelt 27 = .ok (.ladd, 1) := by decide +kernel
theorem dX8_spelt_28 : decode cX8_spelt 28 = .ok (.ldc2_w 128, 3) := by decide +kernel
theorem dX8_spelt_31 : decode cX8_spelt 31 = .ok (.lsub, 1) := by decide +kernel
theorem dX8_spelt_32 : decode cX8_spelt 32 = .ok (.lstore_n 1, 1) := by decide +kernel
theorem dX8_spelt_33 : decode cX8_spelt 33 = .ok (.iinc 3 1, 3) := by decide +kernel
theorem dX8_spelt_36 : decode cX8_spelt 36 = .ok (.goto (-29), 3) := by decide +kernel
theorem dX8_spelt_39 : decode cX8_spelt 39 = .ok (.lload_n 1, 1) := by decide +kernel
theorem dX8_spelt_40 : decode cX8_spelt 40 = .ok (.lreturn, 1) := by decide +kernel
theorem dX8_boardHere_0 : decode cX8_boardHere 0 = .ok (.iconst 0, 1) := by decide +kernel
theorem dX8_boardHere_1 : decode cX8_boardHere 1 = .ok (.istore_n 1, 1) := by decide +kernel
theorem dX8_boardHere_2 : decode cX8_boardHere 2 = .ok (.iload_n 1, 1) := by decide +kernel
theorem dX8_boardHere_3 : decode cX8_boardHere 3 = .ok (.aload_n 0, 1) := by decide +kernel
theorem dX8_boardHere_4 : decode cX8_boardHere 4 = .ok (.getfield 20, 3) := by decide +kernel
theorem dX8_boardHere_7 : decode cX8_boardHere 7 = .ok (.iconst 3, 1) := by decide +kernel
theorem dX8_boardHere_8 : decode cX8_boardHere 8 = .ok (.iaload, 1) := by decide +kernel
theorem dX8_boardHere_9 : decode cX8_boardHere 9 = .ok (.if_icmp .ge 25, 3) := by decide +kernel
theorem dX8_boardHere_12 : decode cX8_boardHere 12 = .ok (.aload_n 0, 1) := by decide +kernel
theorem dX8_boardHere_13 : decode cX8_boardHere 13 = .ok (.getfield 23, 3) := by decide +kernel
theorem dX8_boardHere_16 : decode cX8_boardHere 16 = .ok (.iload_n 1, 1) := by decide +kernel
theorem dX8_boardHere_17 : decode cX8_boardHere 17 = .ok (.laload, 1) := by decide +kernel
theorem dX8_boardHere_18 : decode cX8_boardHere 18 = .ok (.aload_n 0, 1) := by decide +kernel
theorem dX8_boardHere_19 : decode cX8_boardHere 19 = .ok (.invokevirtual 130, 3) := by decide +kernel
theorem dX8_boardHere_22 : decode cX8_boardHere 22 = .ok (.lcmp, 1) := by decide +kernel
theorem dX8_boardHere_23 : decode cX8_boardHere 23 = .ok (.ifCond .ne 5, 3) := by decide +kernel
theorem dX8_boardHere_26 : decode cX8_boardHere 26 = .ok (.iload_n 1, 1) := by decide +kernel
theorem dX8_boardHere_27 : decode cX8_boardHere 27 = .ok (.ireturn, 1) := by decide +kernel
theorem dX8_boardHere_28 : decode cX8_boardHere 28 = .ok (.iinc 1 1, 3) := by decide +kernel
theorem dX8_boardHere_31 : decode cX8_boardHere 31 = .ok (.goto (-29), 3) := by decide +kernel
theorem dX8_boardHere_34 : decode cX8_boardHere 34 = .ok (.iconst (-1), 1) := by decide +kernel
theorem dX8_boardHere_35 : decode cX8_boardHere 35 = .ok (.ireturn, 1) := by decide +kernel
theorem dX8_begins_0 : decode cX8_begins 0 = .ok (.iload_n 1, 1) := by decide +kernel
theorem dX8_begins_1 : decode cX8_begins 1 = .ok (.ifCond .ne 9, 3) := by decide +kernel
theorem dX8_begins_4 : decode cX8_begins 4 = .ok (.aload_n 0, 1) := by decide +kernel
theorem dX8_begins_5 : decode cX8_begins 5 = .ok (.iconst 5, 1) := by decide +kernel
theorem dX8_begins_6 : decode cX8_begins 6 = .ok (.invokevirtual 106, 3) := by decide +kernel
theorem dX8_begins_9 : decode cX8_begins 9 = .ok (.ireturn, 1) := by decide +kernel
theorem dX8_begins_10 : decode cX8_begins 10 = .ok (.aload_n 0, 1) := by decide +kernel
theorem dX8_begins_11 : decode cX8_begins 11 = .ok (.getfield 134, 3) := by decide +kernel
theorem dX8_begins_14 : decode cX8_begins 14 = .ok (.ifCond .ne 10, 3) := by decide +kernel
theorem dX8_begins_17 : decode cX8_begins 17 = .ok (.aload_n 0, 1) := by decide +kernel
theorem dX8_begins_18 : decode cX8_begins 18 = .ok (.bipush 6, 2) := by decide +kernel
theorem dX8_begins_20 : decode cX8_begins 20 = .ok (.invokevirtual 106, 3) := by decide +kernel
theorem dX8_begins_23 : decode cX8_begins 23 = .ok (.ireturn, 1) := by decide +kernel
theorem dX8_begins_24 : decode cX8_begins 24 = .ok (.aload_n 0, 1) := by decide +kernel
theorem dX8_begins_25 : decode cX8_begins 25 = .ok (.invokevirtual 110, 3) := by decide +kernel
theorem dX8_begins_28 : decode cX8_begins 28 = .ok (.iconst 1, 1) := by decide +kernel
theorem dX8_begins_29 : decode cX8_begins 29 = .ok (.ireturn, 1) := by decide +kernel
theorem dX8_readBus_0 : decode cX8_readBus 0 = .ok (.aload_n 0, 1) := by decide +kernel
theorem dX8_readBus_1 : decode cX8_readBus 1 = .ok (.getfield 134, 3) := by decide +kernel
theorem dX8_readBus_4 : decode cX8_readBus 4 = .ok (.ifCond .eq 9, 3) := by decide +kernel
theorem dX8_readBus_7 : decode cX8_readBus 7 = .ok (.aload_n 0, 1) := by decide +kernel
theorem dX8_readBus_8 : decode cX8_readBus 8 = .ok (.iconst 3, 1) := by decide +kernel
theorem dX8_readBus_9 : decode cX8_readBus 9 = .ok (.invokevirtual 106, 3) := by decide +kernel
theorem dX8_readBus_12 : decode cX8_readBus 12 = .ok (.ireturn, 1) := by decide +kernel
theorem dX8_readBus_13 : decode cX8_readBus 13 = .ok (.aload_n 0, 1) := by decide +kernel
theorem dX8_readBus_14 : decode cX8_readBus 14 = .ok (.invokevirtual 110, 3) := by decide +kernel
theorem dX8_readBus_17 : decode cX8_readBus 17 = .ok (.aload_n 0, 1) := by decide +kernel
theorem dX8_readBus_18 : decode cX8_readBus 18 = .ok (.aload_n 0, 1) := by decide +kernel
theorem dX8_readBus_19 : decode cX8_readBus 19 = .ok (.ldc 138, 2) := by decide +kernel
theorem dX8_readBus_21 : decode cX8_readBus 21 = .ok (.iconst 0, 1) := by decide +kernel
theorem dX8_readBus_22 : decode cX8_readBus 22 = .ok (.iconst 1, 1) := by decide +kernel
theorem dX8_readBus_23 : decode cX8_readBus 23 = .ok (.iconst 3, 1) := by decide +kernel
theorem dX8_readBus_24 : decode cX8_readBus 24 = .ok (.invokevirtual 140, 3) := by decide +kernel
theorem dX8_readBus_27 : decode cX8_readBus 27 = .ok (.ifCond .eq 34, 3) := by decide +kernel
theorem dX8_readBus_30 : decode cX8_readBus 30 = .ok (.aload_n 0, 1) := by decide +kernel
theorem dX8_readBus_31 : decode cX8_readBus 31 = .ok (.ldc 144, 2) := by decide +kernel
theorem dX8_readBus_33 : decode cX8_readBus 33 = .ok (.iconst 1, 1) := by decide +kernel
theorem dX8_readBus_34 : decode cX8_readBus 34 = .ok (.iconst 0, 1) := by decide +kernel
theorem dX8_readBus_35 : decode cX8_readBus 35 = .ok (.bipush 20, 2) := by decide +kernel
theorem dX8_readBus_37 : decode cX8_readBus 37 = .ok (.invokevirtual 140, 3) := by decide +kernel
theorem dX8_readBus_40 : decode cX8_readBus 40 = .ok (.ifCond .eq 21, 3) := by decide +kernel
theorem dX8_readBus_43 : decode cX8_readBus 43 = .ok (.aload_n 0, 1) := by decide +kernel
theorem dX8_readBus_44 : decode cX8_readBus 44 = .ok (.ldc 146, 2) := by decide +kernel
theorem dX8_readBus_46 : decode cX8_readBus 46 = .ok (.iconst 2, 1) := by decide +kernel
theorem dX8_readBus_47 : decode cX8_readBus 47 = .ok (.iconst 1, 1) := by decide +kernel
theorem dX8_readBus_48 : decode cX8_readBus 48 = .ok (.sipush 200, 3) := by decide +kernel
theorem dX8_readBus_51 : decode cX8_readBus 51 = .ok (.invokevirtual 140, 3) := by decide +kernel
theorem dX8_readBus_54 : decode cX8_readBus 54 = .ok (.ifCond .eq 7, 3) := by decide +kernel
theorem dX8_readBus_57 : decode cX8_readBus 57 = .ok (.iconst 1, 1) := by decide +kernel
theorem dX8_readBus_58 : decode cX8_readBus 58 = .ok (.goto 4, 3) := by decide +kernel
theorem dX8_readBus_61 : decode cX8_readBus 61 = .ok (.iconst 0, 1) := by decide +kernel
theorem dX8_readBus_62 : decode cX8_readBus 62 = .ok (.putfield 134, 3) := by decide +kernel
theorem dX8_readBus_65 : decode cX8_readBus 65 = .ok (.aload_n 0, 1) := by decide +kernel
theorem dX8_readBus_66 : decode cX8_readBus 66 = .ok (.getfield 134, 3) := by decide +kernel
theorem dX8_readBus_69 : decode cX8_readBus 69 = .ok (.ireturn, 1) := by decide +kernel
theorem dX8_laysOwn_0 : decode cX8_laysOwn 0 = .ok (.aload_n 0, 1) := by decide +kernel
theorem dX8_laysOwn_1 : decode cX8_laysOwn 1 = .ok (.aload_n 1, 1) := by decide +kernel
theorem dX8_laysOwn_2 : decode cX8_laysOwn 2 = .ok (.invokevirtual 113, 3) := by decide +kernel
theorem dX8_laysOwn_5 : decode cX8_laysOwn 5 = .ok (.ifCond .ne 9, 3) := by decide +kernel
theorem dX8_laysOwn_8 : decode cX8_laysOwn 8 = .ok (.aload_n 0, 1) := by decide +kernel
theorem dX8_laysOwn_9 : decode cX8_laysOwn 9 = .ok (.iconst 1, 1) := by decide +kernel
theorem dX8_laysOwn_10 : decode cX8_laysOwn 10 = .ok (.invokevirtual 106, 3) := by decide +kernel
theorem dX8_laysOwn_13 : decode cX8_laysOwn 13 = .ok (.ireturn, 1) := by decide +kernel
theorem dX8_laysOwn_14 : decode cX8_laysOwn 14 = .ok (.aload_n 0, 1) := by decide +kernel
theorem dX8_laysOwn_15 : decode cX8_laysOwn 15 = .ok (.invokevirtual 110, 3) := by decide +kernel
theorem dX8_laysOwn_18 : decode cX8_laysOwn 18 = .ok (.iconst 0, 1) := by decide +kernel
theorem dX8_laysOwn_19 : decode cX8_laysOwn 19 = .ok (.istore 5, 2) := by decide +kernel
theorem dX8_laysOwn_21 : decode cX8_laysOwn 21 = .ok (.iload 5, 2) := by decide +kernel
theorem dX8_laysOwn_23 : decode cX8_laysOwn 23 = .ok (.aload_n 0, 1) := by decide +kernel
theorem dX8_laysOwn_24 : decode cX8_laysOwn 24 = .ok (.getfield 20, 3) := by decide +kernel
theorem dX8_laysOwn_27 : decode cX8_laysOwn 27 = .ok (.iconst 3, 1) := by decide +kernel
theorem dX8_laysOwn_28 : decode cX8_laysOwn 28 = .ok (.iaload, 1) := by decide +kernel
theorem dX8_laysOwn_29 : decode cX8_laysOwn 29 = .ok (.if_icmp .ge 39, 3) := by decide +kernel
theorem dX8_laysOwn_32 : decode cX8_laysOwn 32 = .ok (.aload_n 0, 1) := by decide +kernel
theorem dX8_laysOwn_33 : decode cX8_laysOwn 33 = .ok (.getfield 80, 3) := by decide +kernel
theorem dX8_laysOwn_36 : decode cX8_laysOwn 36 = .ok (.iconst 3, 1) := by decide +kernel
theorem dX8_laysOwn_37 : decode cX8_laysOwn 37 = .ok (.if_icmp .ne 25, 3) := by decide +kernel
theorem dX8_laysOwn_40 : decode cX8_laysOwn 40 = .ok (.aload_n 0, 1) := by decide +kernel
theorem dX8_laysOwn_41 : decode cX8_laysOwn 41 = .ok (.getfield 20, 3) := by decide +kernel
theorem dX8_laysOwn_44 : decode cX8_laysOwn 44 = .ok (.iload_n 2, 1) := by decide +kernel
theorem dX8_laysOwn_45 : decode cX8_laysOwn 45 = .ok (.iload 5, 2) := by decide +kernel
theorem dX8_laysOwn_47 : decode cX8_laysOwn 47 = .ok (.iadd, 1) := by decide +kernel
theorem dX8_laysOwn_48 : decode cX8_laysOwn 48 = .ok (.iaload, 1) := by decide +kernel
theorem dX8_laysOwn_49 : decode cX8_laysOwn 49 = .ok (.aload_n 0, 1) := by decide +kernel
theorem dX8_laysOwn_50 : decode cX8_laysOwn 50 = .ok (.getfield 87, 3) := by decide +kernel
theorem dX8_laysOwn_53 : decode cX8_laysOwn 53 = .ok (.if_icmp .ne 9, 3) := by decide +kernel
theorem dX8_laysOwn_56 : decode cX8_laysOwn 56 = .ok (.aload_n 0, 1) := by decide +kernel
theorem dX8_laysOwn_57 : decode cX8_laysOwn 57 = .ok (.iconst 3, 1) := by decide +kernel
theorem dX8_laysOwn_58 : decode cX8_laysOwn 58 = .ok (.invokevirtual 106, 3) := by decide +kernel
theorem dX8_laysOwn_61 : decode cX8_laysOwn 61 = .ok (.ireturn, 1) := by decide +kernel
theorem dX8_laysOwn_62 : decode cX8_laysOwn 62 = .ok (.iinc 5 1, 3) := by decide +kernel
theorem dX8_laysOwn_65 : decode cX8_laysOwn 65 = .ok (.goto (-44), 3) := by decide +kernel
theorem dX8_laysOwn_68 : decode cX8_laysOwn 68 = .ok (.aload_n 0, 1) := by decide +kernel
theorem dX8_laysOwn_69 : decode cX8_laysOwn 69 = .ok (.iload_n 2, 1) := by decide +kernel
theorem dX8_laysOwn_70 : decode cX8_laysOwn 70 = .ok (.aload_n 0, 1) := by decide +kernel
theorem dX8_laysOwn_71 : decode cX8_laysOwn 71 = .ok (.getfield 20, 3) := by decide +kernel
theorem dX8_laysOwn_74 : decode cX8_laysOwn 74 = .ok (.iconst 3, 1) := by decide +kernel
theorem dX8_laysOwn_75 : decode cX8_laysOwn 75 = .ok (.iaload, 1) := by decide +kernel
theorem dX8_laysOwn_76 : decode cX8_laysOwn 76 = .ok (.iadd, 1) := by decide +kernel
theorem dX8_laysOwn_77 : decode cX8_laysOwn 77 = .ok (.iload_n 3, 1) := by decide +kernel
theorem dX8_laysOwn_78 : decode cX8_laysOwn 78 = .ok (.iload 4, 2) := by decide +kernel
theorem dX8_laysOwn_80 : decode cX8_laysOwn 80 = .ok (.invokevirtual 117, 3) := by decide +kernel
theorem dX8_laysOwn_83 : decode cX8_laysOwn 83 = .ok (.ireturn, 1) := by decide +kernel
theorem dX8_readBoard_0 : decode cX8_readBoard 0 = .ok (.aload_n 0, 1) := by decide +kernel
theorem dX8_readBoard_1 : decode cX8_readBoard 1 = .ok (.getfield 20, 3) := by decide +kernel
theorem dX8_readBoard_4 : decode cX8_readBoard 4 = .ok (.iconst 3, 1) := by decide +kernel
theorem dX8_readBoard_5 : decode cX8_readBoard 5 = .ok (.iaload, 1) := by decide +kernel
theorem dX8_readBoard_6 : decode cX8_readBoard 6 = .ok (.istore_n 1, 1) := by decide +kernel
theorem dX8_readBoard_7 : decode cX8_readBoard 7 = .ok (.aload_n 0, 1) := by decide +kernel
theorem dX8_readBoard_8 : decode cX8_readBoard 8 = .ok (.iload_n 1, 1) := by decide +kernel
theorem dX8_readBoard_9 : decode cX8_readBoard 9 = .ok (.bipush 6, 2) := by decide +kernel
theorem dX8_readBoard_11 : decode cX8_readBoard 11 = .ok (.if_icmp .ge 7, 3) := by decide +kernel
theorem dX8_readBoard_14 : decode cX8_readBoard 14 = .ok (.iconst 1, 1) := by decide +kernel
theorem dX8_readBoard_15 : decode cX8_readBoard 15 = .ok (.goto 4, 3) := by decide +kernel
theorem dX8_readBoard_18 : decode cX8_readBoard 18 = .ok (.iconst 0, 1) := by decide +kernel
theorem dX8_readBoard_19 : decode cX8_readBoard 19 = .ok (.invokevirtual 148, 3) := by decide +kernel
theorem dX8_readBoard_22 : decode cX8_readBoard 22 = .ok (.ifCond .ne 5, 3) := by decide +kernel
theorem dX8_readBoard_25 : decode cX8_readBoard 25 = .ok (.iconst 0, 1) := by decide +kernel
theorem dX8_readBoard_26 : decode cX8_readBoard 26 = .ok (.ireturn, 1) := by decide +kernel
theorem dX8_readBoard_27 : decode cX8_readBoard 27 = .ok (.aload_n 0, 1) := by decide +kernel
theorem dX8_readBoard_28 : decode cX8_readBoard 28 = .ok (.invokevirtual 152, 3) := by decide +kernel
theorem dX8_readBoard_31 : decode cX8_readBoard 31 = .ok (.ifCond .ne 9, 3) := by decide +kernel
theorem dX8_readBoard_34 : decode cX8_readBoard 34 = .ok (.aload_n 0, 1) := by decide +kernel
theorem dX8_readBoard_35 : decode cX8_readBoard 35 = .ok (.iconst 1, 1) := by decide +kernel
theorem dX8_readBoard_36 : decode cX8_readBoard 36 = .ok (.invokevirtual 106, 3) := by decide +kernel
theorem dX8_readBoard_39 : decode cX8_readBoard 39 = .ok (.ireturn, 1) := by decide +kernel
theorem dX8_readBoard_40 : decode cX8_readBoard 40 = .ok (.aload_n 0, 1) := by decide +kernel
theorem dX8_readBoard_41 : decode cX8_readBoard 41 = .ok (.invokevirtual 156, 3) := by decide +kernel
theorem dX8_readBoard_44 : decode cX8_readBoard 44 = .ok (.iconst (-1), 1) := by decide +kernel
theorem dX8_readBoard_45 : decode cX8_readBoard 45 = .ok (.if_icmp .eq 9, 3) := by decide +kernel
theorem dX8_readBoard_48 : decode cX8_readBoard 48 = .ok (.aload_n 0, 1) := by decide +kernel
theorem dX8_readBoard_49 : decode cX8_readBoard 49 = .ok (.iconst 3, 1) := by decide +kernel
theorem dX8_readBoard_50 : decode cX8_readBoard 50 = .ok (.invokevirtual 106, 3) := by decide +kernel
theorem dX8_readBoard_53 : decode cX8_readBoard 53 = .ok (.ireturn, 1) := by decide +kernel
theorem dX8_readBoard_54 : decode cX8_readBoard 54 = .ok (.aload_n 0, 1) := by decide +kernel
theorem dX8_readBoard_55 : decode cX8_readBoard 55 = .ok (.getfield 23, 3) := by decide +kernel
theorem dX8_readBoard_58 : decode cX8_readBoard 58 = .ok (.iload_n 1, 1) := by decide +kernel
theorem dX8_readBoard_59 : decode cX8_readBoard 59 = .ok (.aload_n 0, 1) := by decide +kernel
theorem dX8_readBoard_60 : decode cX8_readBoard 60 = .ok (.invokevirtual 130, 3) := by decide +kernel
theorem dX8_readBoard_63 : decode cX8_readBoard 63 = .ok (.lastore, 1) := by decide +kernel
theorem dX8_readBoard_64 : decode cX8_readBoard 64 = .ok (.aload_n 0, 1) := by decide +kernel
theorem dX8_readBoard_65 : decode cX8_readBoard 65 = .ok (.invokevirtual 110, 3) := by decide +kernel
theorem dX8_readBoard_68 : decode cX8_readBoard 68 = .ok (.aload_n 0, 1) := by decide +kernel
theorem dX8_readBoard_69 : decode cX8_readBoard 69 = .ok (.ldc 159, 2) := by decide +kernel
theorem dX8_readBoard_71 : decode cX8_readBoard 71 = .ok (.iconst 5, 1) := by decide +kernel
theorem dX8_readBoard_72 : decode cX8_readBoard 72 = .ok (.iconst 0, 1) := by decide +kernel
theorem dX8_readBoard_73 : decode cX8_readBoard 73 = .ok (.bipush 9, 2) := by decide +kernel
theorem dX8_readBoard_75 : decode cX8_readBoard 75 = .ok (.invokevirtual 161, 3) := by decide +kernel
theorem dX8_readBoard_78 : decode cX8_readBoard 78 = .ok (.ifCond .eq 33, 3) := by decide +kernel
theorem dX8_readBoard_81 : decode cX8_readBoard 81 = .ok (.aload_n 0, 1) := by decide +kernel
theorem dX8_readBoard_82 : decode cX8_readBoard 82 = .ok (.ldc 164, 2) := by decide +kernel
theorem dX8_readBoard_84 : decode cX8_readBoard 84 = .ok (.bipush 11, 2) := by decide +kernel
theorem dX8_readBoard_86 : decode cX8_readBoard 86 = .ok (.iconst 1, 1) := by decide +kernel
theorem dX8_readBoard_87 : decode cX8_readBoard 87 = .ok (.bipush 31, 2) := by decide +kernel
theorem dX8_readBoard_89 : decode cX8_readBoard 89 = .ok (.invokevirtual 161, 3) := by decide +kernel
theorem dX8_readBoard_92 : decode cX8_readBoard 92 = .ok (.ifCond .eq 19, 3) := by decide +kernel
theorem dX8_readBoard_95 : decode cX8_readBoard 95 = .ok (.aload_n 0, 1) := by decide +kernel
theorem dX8_readBoard_96 : decode cX8_readBoard 96 = .ok (.ldc 166, 2) := by decide +kernel
theorem dX8_readBoard_98 : decode cX8_readBoard 98 = .ok (.bipush 17, 2) := by decide +kernel
theorem dX8_readBoard_100 : decode cX8_readBoard 100 = .ok (.iload_n 1, 1) := by decide +kernel
theorem dX8_readBoard_101 : decode cX8_readBoard 101 = .ok (.iadd, 1) := by decide +kernel
theorem dX8_readBoard_102 : decode cX8_readBoard 102 = .ok (.iconst 0, 1) := by decide +kernel
theorem dX8_readBoard_103 : decode cX8_readBoard 103 = .ok (.bipush 7, 2) := by decide +kernel
theorem dX8_readBoard_105 : decode cX8_readBoard 105 = .ok (.invokevirtual 140, 3) := by decide +kernel
theorem dX8_readBoard_108 : decode cX8_readBoard 108 = .ok (.ifCond .ne 5, 3) := by decide +kernel
theorem dX8_readBoard_111 : decode cX8_readBoard 111 = .ok (.iconst 0, 1) := by decide +kernel
theorem dX8_readBoard_112 : decode cX8_readBoard 112 = .ok (.ireturn, 1) := by decide +kernel
theorem dX8_readBoard_113 : decode cX8_readBoard 113 = .ok (.aload_n 0, 1) := by decide +kernel
theorem dX8_readBoard_114 : decode cX8_readBoard 114 = .ok (.getfield 20, 3) := by decide +kernel
theorem dX8_readBoard_117 : decode cX8_readBoard 117 = .ok (.iconst 3, 1) := by decide +kernel
theorem dX8_readBoard_118 : decode cX8_readBoard 118 = .ok (.dup2, 1) := by decide +kernel
theorem dX8_readBoard_119 : decode cX8_readBoard 119 = .ok (.iaload, 1) := by decide +kernel
theorem dX8_readBoard_120 : decode cX8_readBoard 120 = .ok (.iconst 1, 1) := by decide +kernel
theorem dX8_readBoard_121 : decode cX8_readBoard 121 = .ok (.iadd, 1) := by decide +kernel
theorem dX8_readBoard_122 : decode cX8_readBoard 122 = .ok (.iastore, 1) := by decide +kernel
theorem dX8_readBoard_123 : decode cX8_readBoard 123 = .ok (.iconst 1, 1) := by decide +kernel
theorem dX8_readBoard_124 : decode cX8_readBoard 124 = .ok (.ireturn, 1) := by decide +kernel
theorem dX8_readAsk_0 : decode cX8_readAsk 0 = .ok (.aload_n 0, 1) := by decide +kernel
theorem dX8_readAsk_1 : decode cX8_readAsk 1 = .ok (.getfield 20, 3) := by decide +kernel
theorem dX8_readAsk_4 : decode cX8_readAsk 4 = .ok (.iconst 4, 1) := by decide +kernel
theorem dX8_readAsk_5 : decode cX8_readAsk 5 = .ok (.iaload, 1) := by decide +kernel
theorem dX8_readAsk_6 : decode cX8_readAsk 6 = .ok (.istore_n 1, 1) := by decide +kernel
theorem dX8_readAsk_7 : decode cX8_readAsk 7 = .ok (.aload_n 0, 1) := by decide +kernel
theorem dX8_readAsk_8 : decode cX8_readAsk 8 = .ok (.iload_n 1, 1) := by decide +kernel
theorem dX8_readAsk_9 : decode cX8_readAsk 9 = .ok (.bipush 12, 2) := by decide +kernel
theorem dX8_readAsk_11 : decode cX8_readAsk 11 = .ok (.if_icmp .ge 7, 3) := by decide +kernel
theorem dX8_readAsk_14 : decode cX8_readAsk 14 = .ok (.iconst 1, 1) := by decide +kernel
theorem dX8_readAsk_15 : decode cX8_readAsk 15 = .ok (.goto 4, 3) := by decide +kernel
theorem dX8_readAsk_18 : decode cX8_readAsk 18 = .ok (.iconst 0, 1) := by decide +kernel
theorem dX8_readAsk_19 : decode cX8_readAsk 19 = .ok (.invokevirtual 148, 3) := by decide +kernel
theorem dX8_readAsk_22 : decode cX8_readAsk 22 = .ok (.ifCond .eq 36, 3) := by decide +kernel
theorem dX8_readAsk_25 : decode cX8_readAsk 25 = .ok (.aload_n 0, 1) := by decide +kernel
theorem dX8_readAsk_26 : decode cX8_readAsk 26 = .ok (.bipush 23, 2) := by decide +kernel
theorem dX8_readAsk_28 : decode cX8_readAsk 28 = .ok (.iload_n 1, 1) := by decide +kernel
theorem dX8_readAsk_29 : decode cX8_readAsk 29 = .ok (.iadd, 1) := by decide +kernel
theorem dX8_readAsk_30 : decode cX8_readAsk 30 = .ok (.iload_n 1, 1) := by decide +kernel
theorem dX8_readAsk_31 : decode cX8_readAsk 31 = .ok (.ifCond .ne 7, 3) := by decide +kernel
theorem dX8_readAsk_34 : decode cX8_readAsk 34 = .ok (.iconst 1, 1) := by decide +kernel
theorem dX8_readAsk_35 : decode cX8_readAsk 35 = .ok (.goto 14, 3) := by decide +kernel
theorem dX8_readAsk_38 : decode cX8_readAsk 38 = .ok (.aload_n 0, 1) := by decide +kernel
theorem dX8_readAsk_39 : decode cX8_readAsk 39 = .ok (.getfield 20, 3) := by decide +kernel
theorem dX8_readAsk_42 : decode cX8_readAsk 42 = .ok (.bipush 23, 2) := by decide +kernel
theorem dX8_readAsk_44 : decode cX8_readAsk 44 = .ok (.iload_n 1, 1) := by decide +kernel
theorem dX8_readAsk_45 : decode cX8_readAsk 45 = .ok (.iadd, 1) := by decide +kernel
theorem dX8_readAsk_46 : decode cX8_readAsk 46 = .ok (.iconst 1, 1) := by decide +kernel
theorem dX8_readAsk_47 : decode cX8_readAsk 47 = .ok (.isub, 1) := by decide +kernel
theorem dX8_readAsk_48 : decode cX8_readAsk 48 = .ok (.iaload, 1) := by decide +kernel
theorem dX8_readAsk_49 : decode cX8_readAsk 49 = .ok (.sipush 999, 3) := by decide +kernel
theorem dX8_readAsk_52 : decode cX8_readAsk 52 = .ok (.invokevirtual 117, 3) := by decide +kernel
theorem dX8_readAsk_55 : decode cX8_readAsk 55 = .ok (.ifCond .ne 5, 3) := by decide +kernel
theorem dX8_readAsk_58 : decode cX8_readAsk 58 = .ok (.iconst 0, 1) := by decide +kernel
theorem dX8_readAsk_59 : decode cX8_readAsk 59 = .ok (.ireturn, 1) := by decide +kernel
theorem dX8_readAsk_60 : decode cX8_readAsk 60 = .ok (.aload_n 0, 1) := by decide +kernel
theorem dX8_readAsk_61 : decode cX8_readAsk 61 = .ok (.invokevirtual 152, 3) := by decide +kernel
theorem dX8_readAsk_64 : decode cX8_readAsk 64 = .ok (.ifCond .ne 9, 3) := by decide +kernel
theorem dX8_readAsk_67 : decode cX8_readAsk 67 = .ok (.aload_n 0, 1) := by decide +kernel
theorem dX8_readAsk_68 : decode cX8_readAsk 68 = .ok (.iconst 1, 1) := by decide +kernel
theorem dX8_readAsk_69 : decode cX8_readAsk 69 = .ok (.invokevirtual 106, 3) := by decide +kernel
theorem dX8_readAsk_72 : decode cX8_readAsk 72 = .ok (.ireturn, 1) := by decide +kernel
theorem dX8_readAsk_73 : decode cX8_readAsk 73 = .ok (.aload_n 0, 1) := by decide +kernel
theorem dX8_readAsk_74 : decode cX8_readAsk 74 = .ok (.getfield 20, 3) := by decide +kernel
theorem dX8_readAsk_77 : decode cX8_readAsk 77 = .ok (.bipush 35, 2) := by decide +kernel
theorem dX8_readAsk_79 : decode cX8_readAsk 79 = .ok (.iload_n 1, 1) := by decide +kernel
theorem dX8_readAsk_80 : decode cX8_readAsk 80 = .ok (.iadd, 1) := by decide +kernel
theorem dX8_readAsk_81 : decode cX8_readAsk 81 = .ok (.aload_n 0, 1) := by decide +kernel
theorem dX8_readAsk_82 : decode cX8_readAsk 82 = .ok (.invokevirtual 156, 3) := by decide +kernel
theorem dX8_readAsk_85 : decode cX8_readAsk 85 = .ok (.iastore, 1) := by decide +kernel
theorem dX8_readAsk_86 : decode cX8_readAsk 86 = .ok (.aload_n 0, 1) := by decide +kernel
theorem dX8_readAsk_87 : decode cX8_readAsk 87 = .ok (.getfield 20, 3) := by decide +kernel
theorem dX8_readAsk_90 : decode cX8_readAsk 90 = .ok (.bipush 35, 2) := by decide +kernel
theorem dX8_readAsk_92 : decode cX8_readAsk 92 = .ok (.iload_n 1, 1) := by decide +kernel
theorem dX8_readAsk_93 : decode cX8_readAsk 93 = .ok (.iadd, 1) := by decide +kernel
theorem dX8_readAsk_94 : decode cX8_readAsk 94 = .ok (.iaload, 1) := by decide +kernel
theorem dX8_readAsk_95 : decode cX8_readAsk 95 = .ok (.iconst (-1), 1) := by decide +kernel
theorem dX8_readAsk_96 : decode cX8_readAsk 96 = .ok (.if_icmp .ne 9, 3) := by decide +kernel
theorem dX8_readAsk_99 : decode cX8_readAsk 99 = .ok (.aload_n 0, 1) := by decide +kernel
theorem dX8_readAsk_100 : decode cX8_readAsk 100 = .ok (.iconst 2, 1) := by decide +kernel
theorem dX8_readAsk_101 : decode cX8_readAsk 101 = .ok (.invokevirtual 106, 3) := by decide +kernel
theorem dX8_readAsk_104 : decode cX8_readAsk 104 = .ok (.ireturn, 1) := by decide +kernel
theorem dX8_readAsk_105 : decode cX8_readAsk 105 = .ok (.aload_n 0, 1) := by decide +kernel
theorem dX8_readAsk_106 : decode cX8_readAsk 106 = .ok (.invokevirtual 110, 3) := by decide +kernel
theorem dX8_readAsk_109 : decode cX8_readAsk 109 = .ok (.aload_n 0, 1) := by decide +kernel
theorem dX8_readAsk_110 : decode cX8_readAsk 110 = .ok (.bipush 47, 2) := by decide +kernel
theorem dX8_readAsk_112 : decode cX8_readAsk 112 = .ok (.iload_n 1, 1) := by decide +kernel
theorem dX8_readAsk_113 : decode cX8_readAsk 113 = .ok (.iadd, 1) := by decide +kernel
theorem dX8_readAsk_114 : decode cX8_readAsk 114 = .ok (.iconst 1, 1) := by decide +kernel
theorem dX8_readAsk_115 : decode cX8_readAsk 115 = .ok (.bipush 99, 2) := by decide +kernel
theorem dX8_readAsk_117 : decode cX8_readAsk 117 = .ok (.invokevirtual 117, 3) := by decide +kernel
theorem dX8_readAsk_120 : decode cX8_readAsk 120 = .ok (.ifCond .ne 5, 3) := by decide +kernel
theorem dX8_readAsk_123 : decode cX8_readAsk 123 = .ok (.iconst 0, 1) := by decide +kernel
theorem dX8_readAsk_124 : decode cX8_readAsk 124 = .ok (.ireturn, 1) := by decide +kernel
theorem dX8_readAsk_125 : decode cX8_readAsk 125 = .ok (.aload_n 0, 1) := by decide +kernel
theorem dX8_readAsk_126 : decode cX8_readAsk 126 = .ok (.getfield 20, 3) := by decide +kernel
theorem dX8_readAsk_129 : decode cX8_readAsk 129 = .ok (.iconst 4, 1) := by decide +kernel
theorem dX8_readAsk_130 : decode cX8_readAsk 130 = .ok (.dup2, 1) := by decide +kernel
theorem dX8_readAsk_131 : decode cX8_readAsk 131 = .ok (.iaload, 1) := by decide +kernel
theorem dX8_readAsk_132 : decode cX8_readAsk 132 = .ok (.iconst 1, 1) := by decide +kernel
theorem dX8_readAsk_133 : decode cX8_readAsk 133 = .ok (.iadd, 1) := by decide +kernel
theorem dX8_readAsk_134 : decode cX8_readAsk 134 = .ok (.iastore, 1) := by decide +kernel
theorem dX8_readAsk_135 : decode cX8_readAsk 135 = .ok (.iconst 1, 1) := by decide +kernel
theorem dX8_readAsk_136 : decode cX8_readAsk 136 = .ok (.ireturn, 1) := by decide +kernel
theorem dX8_readLine_0 : decode cX8_readLine 0 = .ok (.aload_n 0, 1) := by decide +kernel
theorem dX8_readLine_1 : decode cX8_readLine 1 = .ok (.ldc 120, 2) := by decide +kernel
theorem dX8_readLine_3 : decode cX8_readLine 3 = .ok (.invokevirtual 113, 3) := by decide +kernel
theorem dX8_readLine_6 : decode cX8_readLine 6 = .ok (.ifCond .eq 8, 3) := by decide +kernel
theorem dX8_readLine_9 : decode cX8_readLine 9 = .ok (.aload_n 0, 1) := by decide +kernel
theorem dX8_readLine_10 : decode cX8_readLine 10 = .ok (.invokevirtual 168, 3) := by decide +kernel
theorem dX8_readLine_13 : decode cX8_readLine 13 = .ok (.ireturn, 1) := by decide +kernel
theorem dX8_readLine_14 : decode cX8_readLine 14 = .ok (.aload_n 0, 1) := by decide +kernel
theorem dX8_readLine_15 : decode cX8_readLine 15 = .ok (.ldc 122, 2) := by decide +kernel
theorem dX8_readLine_17 : decode cX8_readLine 17 = .ok (.invokevirtual 113, 3) := by decide +kernel
theorem dX8_readLine_20 : decode cX8_readLine 20 = .ok (.ifCond .eq 8, 3) := by decide +kernel
theorem dX8_readLine_23 : decode cX8_readLine 23 = .ok (.aload_n 0, 1) := by decide +kernel
theorem dX8_readLine_24 : decode cX8_readLine 24 = .ok (.invokevirtual 171, 3) := by decide +kernel
theorem dX8_readLine_27 : decode cX8_readLine 27 = .ok (.ireturn, 1) := by decide +kernel
theorem dX8_readLine_28 : decode cX8_readLine 28 = .ok (.aload_n 0, 1) := by decide +kernel
theorem dX8_readLine_29 : decode cX8_readLine 29 = .ok (.ldc 124, 2) := by decide +kernel
theorem dX8_readLine_31 : decode cX8_readLine 31 = .ok (.invokevirtual 113, 3) := by decide +kernel
theorem dX8_readLine_34 : decode cX8_readLine 34 = .ok (.ifCond .eq 10, 3) := by decide +kernel
theorem dX8_readLine_37 : decode cX8_readLine 37 = .ok (.aload_n 0, 1) := by decide +kernel
theorem dX8_readLine_38 : decode cX8_readLine 38 = .ok (.invokevirtual 174, 3) := by decide +kernel
theorem dX8_readLine_41 : decode cX8_readLine 41 = .ok (.goto 8, 3) := by decide +kernel
theorem dX8_readLine_44 : decode cX8_readLine 44 = .ok (.aload_n 0, 1) := by decide +kernel
theorem dX8_readLine_45 : decode cX8_readLine 45 = .ok (.iconst 1, 1) := by decide +kernel
theorem dX8_readLine_46 : decode cX8_readLine 46 = .ok (.invokevirtual 106, 3) := by decide +kernel
theorem dX8_readLine_49 : decode cX8_readLine 49 = .ok (.ireturn, 1) := by decide +kernel
theorem dX8_readAll_0 : decode cX8_readAll 0 = .ok (.aload_n 0, 1) := by decide +kernel
theorem dX8_readAll_1 : decode cX8_readAll 1 = .ok (.iload_n 1, 1) := by decide +kernel
theorem dX8_readAll_2 : decode cX8_readAll 2 = .ok (.putfield 67, 3) := by decide +kernel
theorem dX8_readAll_5 : decode cX8_readAll 5 = .ok (.aload_n 0, 1) := by decide +kernel
theorem dX8_readAll_6 : decode cX8_readAll 6 = .ok (.iconst 0, 1) := by decide +kernel
theorem dX8_readAll_7 : decode cX8_readAll 7 = .ok (.putfield 70, 3) := by decide +kernel
theorem dX8_readAll_10 : decode cX8_readAll 10 = .ok (.aload_n 0, 1) := by decide +kernel
theorem dX8_readAll_11 : decode cX8_readAll 11 = .ok (.iconst 0, 1) := by decide +kernel
theorem dX8_readAll_12 : decode cX8_readAll 12 = .ok (.putfield 134, 3) := by decide +kernel
theorem dX8_readAll_15 : decode cX8_readAll 15 = .ok (.aload_n 0, 1) := by decide +kernel
theorem dX8_readAll_16 : decode cX8_readAll 16 = .ok (.getfield 20, 3) := by decide +kernel
theorem dX8_readAll_19 : decode cX8_readAll 19 = .ok (.iconst 3, 1) := by decide +kernel
theorem dX8_readAll_20 : decode cX8_readAll 20 = .ok (.iconst 0, 1) := by decide +kernel
theorem dX8_readAll_21 : decode cX8_readAll 21 = .ok (.iastore, 1) := by decide +kernel
theorem dX8_readAll_22 : decode cX8_readAll 22 = .ok (.aload_n 0, 1) := by decide +kernel
theorem dX8_readAll_23 : decode cX8_readAll 23 = .ok (.getfield 20, 3) := by decide +kernel
theorem dX8_readAll_26 : decode cX8_readAll 26 = .ok (.iconst 4, 1) := by decide +kernel
theorem dX8_readAll_27 : decode cX8_readAll 27 = .ok (.iconst 0, 1) := by decide +kernel
theorem dX8_readAll_28 : decode cX8_readAll 28 = .ok (.iastore, 1) := by decide +kernel
theorem dX8_readAll_29 : decode cX8_readAll 29 = .ok (.aload_n 0, 1) := by decide +kernel
theorem dX8_readAll_30 : decode cX8_readAll 30 = .ok (.invokevirtual 110, 3) := by decide +kernel
theorem dX8_readAll_33 : decode cX8_readAll 33 = .ok (.aload_n 0, 1) := by decide +kernel
theorem dX8_readAll_34 : decode cX8_readAll 34 = .ok (.invokevirtual 177, 3) := by decide +kernel
theorem dX8_readAll_37 : decode cX8_readAll 37 = .ok (.ifCond .ne 5, 3) := by decide +kernel
theorem dX8_readAll_40 : decode cX8_readAll 40 = .ok (.iconst 0, 1) := by decide +kernel
theorem dX8_readAll_41 : decode cX8_readAll 41 = .ok (.ireturn, 1) := by decide +kernel
theorem dX8_readAll_42 : decode cX8_readAll 42 = .ok (.aload_n 0, 1) := by decide +kernel
theorem dX8_readAll_43 : decode cX8_readAll 43 = .ok (.getfield 80, 3) := by decide +kernel
theorem dX8_readAll_46 : decode cX8_readAll 46 = .ok (.bipush 59, 2) := by decide +kernel
theorem dX8_readAll_48 : decode cX8_readAll 48 = .ok (.if_icmp .ne 16, 3) := by decide +kernel
theorem dX8_readAll_51 : decode cX8_readAll 51 = .ok (.aload_n 0, 1) := by decide +kernel
theorem dX8_readAll_52 : decode cX8_readAll 52 = .ok (.invokevirtual 110, 3) := by decide +kernel
theorem dX8_readAll_55 : decode cX8_readAll 55 = .ok (.aload_n 0, 1) := by decide +kernel
theorem dX8_readAll_56 : decode cX8_readAll 56 = .ok (.invokevirtual 177, 3) := by decide +kernel
theorem dX8_readAll_59 : decode cX8_readAll 59 = .ok (.ifCond .ne (-17), 3) := by decide +kernel
theorem dX8_readAll_62 : decode cX8_readAll 62 = .ok (.iconst 0, 1) := by decide +kernel
theorem dX8_readAll_63 : decode cX8_readAll 63 = .ok (.ireturn, 1) := by decide +kernel
theorem dX8_readAll_64 : decode cX8_readAll 64 = .ok (.aload_n 0, 1) := by decide +kernel
theorem dX8_readAll_65 : decode cX8_readAll 65 = .ok (.getfield 80, 3) := by decide +kernel
theorem dX8_readAll_68 : decode cX8_readAll 68 = .ok (.ifCond .eq 9, 3) := by decide +kernel
theorem dX8_readAll_71 : decode cX8_readAll 71 = .ok (.aload_n 0, 1) := by decide +kernel
theorem dX8_readAll_72 : decode cX8_readAll 72 = .ok (.iconst 1, 1) := by decide +kernel
theorem dX8_readAll_73 : decode cX8_readAll 73 = .ok (.invokevirtual 106, 3) := by decide +kernel
theorem dX8_readAll_76 : decode cX8_readAll 76 = .ok (.ireturn, 1) := by decide +kernel
theorem dX8_readAll_77 : decode cX8_readAll 77 = .ok (.aload_n 0, 1) := by decide +kernel
theorem dX8_readAll_78 : decode cX8_readAll 78 = .ok (.getfield 20, 3) := by decide +kernel
theorem dX8_readAll_81 : decode cX8_readAll 81 = .ok (.iconst 3, 1) := by decide +kernel
theorem dX8_readAll_82 : decode cX8_readAll 82 = .ok (.iaload, 1) := by decide +kernel
theorem dX8_readAll_83 : decode cX8_readAll 83 = .ok (.ifCond .gt 12, 3) := by decide +kernel
theorem dX8_readAll_86 : decode cX8_readAll 86 = .ok (.aload_n 0, 1) := by decide +kernel
theorem dX8_readAll_87 : decode cX8_readAll 87 = .ok (.bipush 6, 2) := by decide +kernel
theorem dX8_readAll_89 : decode cX8_readAll 89 = .ok (.invokevirtual 106, 3) := by decide +kernel
theorem dX8_readAll_92 : decode cX8_readAll 92 = .ok (.ifCond .eq 7, 3) := by decide +kernel
theorem dX8_readAll_95 : decode cX8_readAll 95 = .ok (.iconst 1, 1) := by decide +kernel
theorem dX8_readAll_96 : decode cX8_readAll 96 = .ok (.goto 4, 3) := by decide +kernel
theorem dX8_readAll_99 : decode cX8_readAll 99 = .ok (.iconst 0, 1) := by decide +kernel
theorem dX8_readAll_100 : decode cX8_readAll 100 = .ok (.ireturn, 1) := by decide +kernel
theorem dX8_bus_0 : decode cX8_bus 0 = .ok (.aload_n 0, 1) := by decide +kernel
theorem dX8_bus_1 : decode cX8_bus 1 = .ok (.iload_n 1, 1) := by decide +kernel
theorem dX8_bus_2 : decode cX8_bus 2 = .ok (.iconst 0, 1) := by decide +kernel
theorem dX8_bus_3 : decode cX8_bus 3 = .ok (.aload_n 0, 1) := by decide +kernel
theorem dX8_bus_4 : decode cX8_bus 4 = .ok (.getfield 60, 3) := by decide +kernel
theorem dX8_bus_7 : decode cX8_bus 7 = .ok (.invokestatic 83, 3) := by decide +kernel
theorem dX8_bus_10 : decode cX8_bus 10 = .ok (.ifCond .eq 7, 3) := by decide +kernel
theorem dX8_bus_13 : decode cX8_bus 13 = .ok (.iconst 0, 1) := by decide +kernel
theorem dX8_bus_14 : decode cX8_bus 14 = .ok (.goto 4, 3) := by decide +kernel
theorem dX8_bus_17 : decode cX8_bus 17 = .ok (.iconst 2, 1) := by decide +kernel
theorem dX8_bus_18 : decode cX8_bus 18 = .ok (.invokevirtual 180, 3) := by decide +kernel
theorem dX8_bus_21 : decode cX8_bus 21 = .ok (.ifCond .eq 5, 3) := by decide +kernel
theorem dX8_bus_24 : decode cX8_bus 24 = .ok (.iconst (-1), 1) := by decide +kernel
theorem dX8_bus_25 : decode cX8_bus 25 = .ok (.ireturn, 1) := by decide +kernel
theorem dX8_bus_26 : decode cX8_bus 26 = .ok (.aload_n 0, 1) := by decide +kernel
theorem dX8_bus_27 : decode cX8_bus 27 = .ok (.iconst 0, 1) := by decide +kernel
theorem dX8_bus_28 : decode cX8_bus 28 = .ok (.putfield 60, 3) := by decide +kernel
theorem dX8_bus_31 : decode cX8_bus 31 = .ok (.aload_n 0, 1) := by decide +kernel
theorem dX8_bus_32 : decode cX8_bus 32 = .ok (.iconst 0, 1) := by decide +kernel
theorem dX8_bus_33 : decode cX8_bus 33 = .ok (.putfield 183, 3) := by decide +kernel
theorem dX8_bus_36 : decode cX8_bus 36 = .ok (.aload_n 0, 1) := by decide +kernel
theorem dX8_bus_37 : decode cX8_bus 37 = .ok (.iload_n 1, 1) := by decide +kernel
theorem dX8_bus_38 : decode cX8_bus 38 = .ok (.invokevirtual 186, 3) := by decide +kernel
theorem dX8_bus_41 : decode cX8_bus 41 = .ok (.ifCond .ne 25, 3) := by decide +kernel
theorem dX8_bus_44 : decode cX8_bus 44 = .ok (.aload_n 0, 1) := by decide +kernel
theorem dX8_bus_45 : decode cX8_bus 45 = .ok (.aload_n 0, 1) := by decide +kernel
theorem dX8_bus_46 : decode cX8_bus 46 = .ok (.getfield 100, 3) := by decide +kernel
theorem dX8_bus_49 : decode cX8_bus 49 = .ok (.putfield 183, 3) := by decide +kernel
theorem dX8_bus_52 : decode cX8_bus 52 = .ok (.aload_n 0, 1) := by decide +kernel
theorem dX8_bus_53 : decode cX8_bus 53 = .ok (.aload_n 0, 1) := by decide +kernel
theorem dX8_bus_54 : decode cX8_bus 54 = .ok (.getfield 103, 3) := by decide +kernel
theorem dX8_bus_57 : decode cX8_bus 57 = .ok (.putfield 9, 3) := by decide +kernel
theorem dX8_bus_60 : decode cX8_bus 60 = .ok (.aload_n 0, 1) := by decide +kernel
theorem dX8_bus_61 : decode cX8_bus 61 = .ok (.iconst 4, 1) := by decide +kernel
theorem dX8_bus_62 : decode cX8_bus 62 = .ok (.invokevirtual 189, 3) := by decide +kernel
theorem dX8_bus_65 : decode cX8_bus 65 = .ok (.ireturn, 1) := by decide +kernel
theorem dX8_bus_66 : decode cX8_bus 66 = .ok (.iconst 0, 1) := by decide +kernel
theorem dX8_bus_67 : decode cX8_bus 67 = .ok (.istore_n 2, 1) := by decide +kernel
theorem dX8_bus_68 : decode cX8_bus 68 = .ok (.iload_n 2, 1) := by decide +kernel
theorem dX8_bus_69 : decode cX8_bus 69 = .ok (.bipush 59, 2) := by decide +kernel
theorem dX8_bus_71 : decode cX8_bus 71 = .ok (.if_icmp .ge 21, 3) := by decide +kernel
theorem dX8_bus_74 : decode cX8_bus 74 = .ok (.aload_n 0, 1) := by decide +kernel
theorem dX8_bus_75 : decode cX8_bus 75 = .ok (.getfield 17, 3) := by decide +kernel
theorem dX8_bus_78 : decode cX8_bus 78 = .ok (.iload_n 2, 1) := by decide +kernel
theorem dX8_bus_79 : decode cX8_bus 79 = .ok (.aload_n 0, 1) := by decide +kernel
theorem dX8_bus_80 : decode cX8_bus 80 = .ok (.getfield 20, 3) := by decide +kernel
theorem dX8_bus_83 : decode cX8_bus 83 = .ok (.iload_n 2, 1) := by decide +kernel
theorem dX8_bus_84 : decode cX8_bus 84 = .ok (.iaload, 1) := by decide +kernel
theorem dX8_bus_85 : decode cX8_bus 85 = .ok (.iastore, 1) := by decide +kernel
theorem dX8_bus_86 : decode cX8_bus 86 = .ok (.iinc 2 1, 3) := by decide +kernel
theorem dX8_bus_89 : decode cX8_bus 89 = .ok (.goto (-21), 3) := by decide +kernel
theorem dX8_bus_92 : decode cX8_bus 92 = .ok (.aload_n 0, 1) := by decide +kernel
theorem dX8_bus_93 : decode cX8_bus 93 = .ok (.iconst 1, 1) := by decide +kernel
theorem dX8_bus_94 : decode cX8_bus 94 = .ok (.putfield 192, 3) := by decide +kernel
theorem dX8_bus_97 : decode cX8_bus 97 = .ok (.aload_n 0, 1) := by decide +kernel
theorem dX8_bus_98 : decode cX8_bus 98 = .ok (.iconst 0, 1) := by decide +kernel
theorem dX8_bus_99 : decode cX8_bus 99 = .ok (.putfield 195, 3) := by decide +kernel
theorem dX8_bus_102 : decode cX8_bus 102 = .ok (.aload_n 0, 1) := by decide +kernel
theorem dX8_bus_103 : decode cX8_bus 103 = .ok (.invokevirtual 198, 3) := by decide +kernel
theorem dX8_bus_106 : decode cX8_bus 106 = .ok (.aload_n 0, 1) := by decide +kernel
theorem dX8_bus_107 : decode cX8_bus 107 = .ok (.getfield 17, 3) := by decide +kernel
theorem dX8_bus_110 : decode cX8_bus 110 = .ok (.iconst 3, 1) := by decide +kernel
theorem dX8_bus_111 : decode cX8_bus 111 = .ok (.iaload, 1) := by decide +kernel
theorem dX8_bus_112 : decode cX8_bus 112 = .ok (.ireturn, 1) := by decide +kernel
theorem dX8_fault_0 : decode cX8_fault 0 = .ok (.aload_n 0, 1) := by decide +kernel
theorem dX8_fault_1 : decode cX8_fault 1 = .ok (.iconst 0, 1) := by decide +kernel
theorem dX8_fault_2 : decode cX8_fault 2 = .ok (.putfield 54, 3) := by decide +kernel
theorem dX8_fault_5 : decode cX8_fault 5 = .ok (.aload_n 0, 1) := by decide +kernel
theorem dX8_fault_6 : decode cX8_fault 6 = .ok (.getfield 183, 3) := by decide +kernel
theorem dX8_fault_9 : decode cX8_fault 9 = .ok (.ireturn, 1) := by decide +kernel
theorem dX8_where_0 : decode cX8_where 0 = .ok (.aload_n 0, 1) := by decide +kernel
theorem dX8_where_1 : decode cX8_where 1 = .ok (.iconst 0, 1) := by decide +kernel
theorem dX8_where_2 : decode cX8_where 2 = .ok (.putfield 54, 3) := by decide +kernel
theorem dX8_where_5 : decode cX8_where 5 = .ok (.aload_n 0, 1) := by decide +kernel
theorem dX8_where_6 : decode cX8_where 6 = .ok (.getfield 57, 3) := by decide +kernel
theorem dX8_where_9 : decode cX8_where 9 = .ok (.iconst 4, 1) := by decide +kernel
theorem dX8_where_10 : decode cX8_where 10 = .ok (.if_icmp .ne 10, 3) := by decide +kernel
theorem dX8_where_13 : decode cX8_where 13 = .ok (.aload_n 0, 1) := by decide +kernel
theorem dX8_where_14 : decode cX8_where 14 = .ok (.getfield 9, 3) := by decide +kernel
theorem dX8_where_17 : decode cX8_where 17 = .ok (.goto 4, 3) := by decide +kernel
theorem dX8_where_20 : decode cX8_where 20 = .ok (.iconst (-1), 1) := by decide +kernel
theorem dX8_where_21 : decode cX8_where 21 = .ok (.ireturn, 1) := by decide +kernel
theorem dX8_at_0 : decode cX8_at 0 = .ok (.bipush 18, 2) := by decide +kernel
theorem dX8_at_2 : decode cX8_at 2 = .ok (.bipush 12, 2) := by decide +kernel
theorem dX8_at_4 : decode cX8_at 4 = .ok (.iload_n 0, 1) := by decide +kernel
theorem dX8_at_5 : decode cX8_at 5 = .ok (.imul, 1) := by decide +kernel
theorem dX8_at_6 : decode cX8_at 6 = .ok (.iadd, 1) := by decide +kernel
theorem dX8_at_7 : decode cX8_at 7 = .ok (.iload_n 1, 1) := by decide +kernel
theorem dX8_at_8 : decode cX8_at 8 = .ok (.iadd, 1) := by decide +kernel
theorem dX8_at_9 : decode cX8_at 9 = .ok (.ireturn, 1) := by decide +kernel
theorem dX8_beginsAnew_0 : decode cX8_beginsAnew 0 = .ok (.iconst 0, 1) := by decide +kernel
theorem dX8_beginsAnew_1 : decode cX8_beginsAnew 1 = .ok (.istore_n 1, 1) := by decide +kernel
theorem dX8_beginsAnew_2 : decode cX8_beginsAnew 2 = .ok (.iload_n 1, 1) := by decide +kernel
theorem dX8_beginsAnew_3 : decode cX8_beginsAnew 3 = .ok (.sipush 251, 3) := by decide +kernel
theorem dX8_beginsAnew_6 : decode cX8_beginsAnew 6 = .ok (.if_icmp .ge 16, 3) := by decide +kernel
theorem dX8_beginsAnew_9 : decode cX8_beginsAnew 9 = .ok (.aload_n 0, 1) := by decide +kernel
theorem dX8_beginsAnew_10 : decode cX8_beginsAnew 10 = .ok (.getfield 27, 3) := by decide +kernel
theorem dX8_beginsAnew_13 : decode cX8_beginsAnew 13 = .ok (.iload_n 1, 1) := by decide +kernel
theorem dX8_beginsAnew_14 : decode cX8_beginsAnew 14 = .ok (.iconst 0, 1) := by decide +kernel
theorem dX8_beginsAnew_15 : decode cX8_beginsAnew 15 = .ok (.iastore, 1) := by decide +kernel
theorem dX8_beginsAnew_16 : decode cX8_beginsAnew 16 = .ok (.iinc 1 1, 3) := by decide +kernel
theorem dX8_beginsAnew_19 : decode cX8_beginsAnew 19 = .ok (.goto (-17), 3) := by decide +kernel
theorem dX8_beginsAnew_22 : decode cX8_beginsAnew 22 = .ok (.aload_n 0, 1) := by decide +kernel
theorem dX8_beginsAnew_23 : decode cX8_beginsAnew 23 = .ok (.getfield 27, 3) := by decide +kernel
theorem dX8_beginsAnew_26 : decode cX8_beginsAnew 26 = .ok (.iconst 1, 1) := by decide +kernel
theorem dX8_beginsAnew_27 : decode cX8_beginsAnew 27 = .ok (.bipush (-2), 2) := by decide +kernel
theorem dX8_beginsAnew_29 : decode cX8_beginsAnew 29 = .ok (.iastore, 1) := by decide +kernel
theorem dX8_beginsAnew_30 : decode cX8_beginsAnew 30 = .ok (.aload_n 0, 1) := by decide +kernel
theorem dX8_beginsAnew_31 : decode cX8_beginsAnew 31 = .ok (.getfield 27, 3) := by decide +kernel
theorem dX8_beginsAnew_34 : decode cX8_beginsAnew 34 = .ok (.iconst 2, 1) := by decide +kernel
theorem dX8_beginsAnew_35 : decode cX8_beginsAnew 35 = .ok (.bipush (-2), 2) := by decide +kernel
theorem dX8_beginsAnew_37 : decode cX8_beginsAnew 37 = .ok (.iastore, 1) := by decide +kernel
theorem dX8_beginsAnew_38 : decode cX8_beginsAnew 38 = .ok (.aload_n 0, 1) := by decide +kernel
theorem dX8_beginsAnew_39 : decode cX8_beginsAnew 39 = .ok (.getfield 27, 3) := by decide +kernel
theorem dX8_beginsAnew_42 : decode cX8_beginsAnew 42 = .ok (.iconst 3, 1) := by decide +kernel
theorem dX8_beginsAnew_43 : decode cX8_beginsAnew 43 = .ok (.bipush (-2), 2) := by decide +kernel
theorem dX8_beginsAnew_45 : decode cX8_beginsAnew 45 = .ok (.iastore, 1) := by decide +kernel
theorem dX8_beginsAnew_46 : decode cX8_beginsAnew 46 = .ok (.aload_n 0, 1) := by decide +kernel
theorem dX8_beginsAnew_47 : decode cX8_beginsAnew 47 = .ok (.getfield 27, 3) := by decide +kernel
theorem dX8_beginsAnew_50 : decode cX8_beginsAnew 50 = .ok (.iconst 4, 1) := by decide +kernel
theorem dX8_beginsAnew_51 : decode cX8_beginsAnew 51 = .ok (.bipush (-2), 2) := by decide +kernel
theorem dX8_beginsAnew_53 : decode cX8_beginsAnew 53 = .ok (.iastore, 1) := by decide +kernel
theorem dX8_beginsAnew_54 : decode cX8_beginsAnew 54 = .ok (.iconst 0, 1) := by decide +kernel
theorem dX8_beginsAnew_55 : decode cX8_beginsAnew 55 = .ok (.istore_n 1, 1) := by decide +kernel
theorem dX8_beginsAnew_56 : decode cX8_beginsAnew 56 = .ok (.iload_n 1, 1) := by decide +kernel
theorem dX8_beginsAnew_57 : decode cX8_beginsAnew 57 = .ok (.bipush 6, 2) := by decide +kernel
theorem dX8_beginsAnew_59 : decode cX8_beginsAnew 59 = .ok (.if_icmp .ge 45, 3) := by decide +kernel
theorem dX8_beginsAnew_62 : decode cX8_beginsAnew 62 = .ok (.aload_n 0, 1) := by decide +kernel
theorem dX8_beginsAnew_63 : decode cX8_beginsAnew 63 = .ok (.getfield 27, 3) := by decide +kernel
theorem dX8_beginsAnew_66 : decode cX8_beginsAnew 66 = .ok (.iload_n 1, 1) := by decide +kernel
theorem dX8_beginsAnew_67 : decode cX8_beginsAnew 67 = .ok (.iconst 2, 1) := by decide +kernel
theorem dX8_beginsAnew_68 : decode cX8_beginsAnew 68 = .ok (.invokestatic 201, 3) := by decide +kernel
theorem dX8_beginsAnew_71 : decode cX8_beginsAnew 71 = .ok (.iconst 1, 1) := by decide +kernel
theorem dX8_beginsAnew_72 : decode cX8_beginsAnew 72 = .ok (.iastore, 1) := by decide +kernel
theorem dX8_beginsAnew_73 : decode cX8_beginsAnew 73 = .ok (.aload_n 0, 1) := by decide +kernel
theorem dX8_beginsAnew_74 : decode cX8_beginsAnew 74 = .ok (.getfield 27, 3) := by decide +kernel
theorem dX8_beginsAnew_77 : decode cX8_beginsAnew 77 = .ok (.iload_n 1, 1) := by decide +kernel
theorem dX8_beginsAnew_78 : decode cX8_beginsAnew 78 = .ok (.iconst 3, 1) := by decide +kernel
theorem dX8_beginsAnew_79 : decode cX8_beginsAnew 79 = .ok (.invokestatic 201, 3) := by decide +kernel
theorem dX8_beginsAnew_82 : decode cX8_beginsAnew 82 = .ok (.bipush (-2), 2) := by decide +kernel
theorem dX8_beginsAnew_84 : decode cX8_beginsAnew 84 = .ok (.iastore, 1) := by decide +kernel
theorem dX8_beginsAnew_85 : decode cX8_beginsAnew 85 = .ok (.aload_n 0, 1) := by decide +kernel
theorem dX8_beginsAnew_86 : decode cX8_beginsAnew 86 = .ok (.getfield 27, 3) := by decide +kernel
theorem dX8_beginsAnew_89 : decode cX8_beginsAnew 89 = .ok (.iload_n 1, 1) := by decide +kernel
theorem dX8_beginsAnew_90 : decode cX8_beginsAnew 90 = .ok (.bipush 10, 2) := by decide +kernel
theorem dX8_beginsAnew_92 : decode cX8_beginsAnew 92 = .ok (.invokestatic 201, 3) := by decide +kernel
theorem dX8_beginsAnew_95 : decode cX8_beginsAnew 95 = .ok (.bipush (-2), 2) := by decide +kernel
theorem dX8_beginsAnew_97 : decode cX8_beginsAnew 97 = .ok (.iastore, 1) := by decide +kernel
theorem dX8_beginsAnew_98 : decode cX8_beginsAnew 98 = .ok (.iinc 1 1, 3) := by decide +kernel
theorem dX8_beginsAnew_101 : decode cX8_beginsAnew 101 = .ok (.goto (-45), 3) := by decide +kernel
theorem dX8_beginsAnew_104 : decode cX8_beginsAnew 104 = .ok (.return_, 1) := by decide +kernel
theorem dX8_isBoard_0 : decode cX8_isBoard 0 = .ok (.aload_n 0, 1) := by decide +kernel
theorem dX8_isBoard_1 : decode cX8_isBoard 1 = .ok (.getfield 192, 3) := by decide +kernel
theorem dX8_isBoard_4 : decode cX8_isBoard 4 = .ok (.ifCond .eq 23, 3) := by decide +kernel
theorem dX8_isBoard_7 : decode cX8_isBoard 7 = .ok (.iload_n 1, 1) := by decide +kernel
theorem dX8_isBoard_8 : decode cX8_isBoard 8 = .ok (.iconst 0, 1) := by decide +kernel
theorem dX8_isBoard_9 : decode cX8_isBoard 9 = .ok (.aload_n 0, 1) := by decide +kernel
theorem dX8_isBoard_10 : decode cX8_isBoard 10 = .ok (.getfield 17, 3) := by decide +kernel
theorem dX8_isBoard_13 : decode cX8_isBoard 13 = .ok (.iconst 3, 1) := by decide +kernel
theorem dX8_isBoard_14 : decode cX8_isBoard 14 = .ok (.iaload, 1) := by decide +kernel
theorem dX8_isBoard_15 : decode cX8_isBoard 15 = .ok (.iconst 1, 1) := by decide +kernel
theorem dX8_isBoard_16 : decode cX8_isBoard 16 = .ok (.isub, 1) := by decide +kernel
theorem dX8_isBoard_17 : decode cX8_isBoard 17 = .ok (.invokestatic 83, 3) := by decide +kernel
theorem dX8_isBoard_20 : decode cX8_isBoard 20 = .ok (.ifCond .eq 7, 3) := by decide +kernel
theorem dX8_isBoard_23 : decode cX8_isBoard 23 = .ok (.iconst 1, 1) := by decide +kernel
theorem dX8_isBoard_24 : decode cX8_isBoard 24 = .ok (.goto 4, 3) := by decide +kernel
theorem dX8_isBoard_27 : decode cX8_isBoard 27 = .ok (.iconst 0, 1) := by decide +kernel
theorem dX8_isBoard_28 : decode cX8_isBoard 28 = .ok (.ireturn, 1) := by decide +kernel
theorem dX8_has_0 : decode cX8_has 0 = .ok (.iload_n 0, 1) := by decide +kernel
theorem dX8_has_1 : decode cX8_has 1 = .ok (.iload_n 1, 1) := by decide +kernel
theorem dX8_has_2 : decode cX8_has 2 = .ok (.ishr, 1) := by decide +kernel
theorem dX8_has_3 : decode cX8_has 3 = .ok (.iconst 1, 1) := by decide +kernel
theorem dX8_has_4 : decode cX8_has 4 = .ok (.iand, 1) := by decide +kernel
theorem dX8_has_5 : decode cX8_has 5 = .ok (.iconst 1, 1) := by decide +kernel
theorem dX8_has_6 : decode cX8_has 6 = .ok (.if_icmp .ne 7, 3) := by decide +kernel
theorem dX8_has_9 : decode cX8_has 9 = .ok (.iconst 1, 1) := by decide +kernel
theorem dX8_has_10 : decode cX8_has 10 = .ok (.goto 4, 3) := by decide +kernel
theorem dX8_has_13 : decode cX8_has 13 = .ok (.iconst 0, 1) := by decide +kernel
theorem dX8_has_14 : decode cX8_has 14 = .ok (.ireturn, 1) := by decide +kernel
theorem dX8_bitsOf_0 : decode cX8_bitsOf 0 = .ok (.iconst 0, 1) := by decide +kernel
theorem dX8_bitsOf_1 : decode cX8_bitsOf 1 = .ok (.istore_n 1, 1) := by decide +kernel
theorem dX8_bitsOf_2 : decode cX8_bitsOf 2 = .ok (.iload_n 0, 1) := by decide +kernel
theorem dX8_bitsOf_3 : decode cX8_bitsOf 3 = .ok (.istore_n 2, 1) := by decide +kernel
theorem dX8_bitsOf_4 : decode cX8_bitsOf 4 = .ok (.iload_n 2, 1) := by decide +kernel
theorem dX8_bitsOf_5 : decode cX8_bitsOf 5 = .ok (.ifCond .eq 15, 3) := by decide +kernel
theorem dX8_bitsOf_8 : decode cX8_bitsOf 8 = .ok (.iinc 1 1, 3) := by decide +kernel
theorem dX8_bitsOf_11 : decode cX8_bitsOf 11 = .ok (.iload_n 2, 1) := by decide +kernel
theorem dX8_bitsOf_12 : decode cX8_bitsOf 12 = .ok (.iload_n 2, 1) := by decide +kernel
theorem dX8_bitsOf_13 : decode cX8_bitsOf 13 = .ok (.iconst 1, 1) := by decide +kernel
theorem dX8_bitsOf_14 : decode cX8_bitsOf 14 = .ok (.isub, 1) := by decide +kernel
theorem dX8_bitsOf_15 : decode cX8_bitsOf 15 = .ok (.iand, 1) := by decide +kernel
theorem dX8_bitsOf_16 : decode cX8_bitsOf 16 = .ok (.istore_n 2, 1) := by decide +kernel
theorem dX8_bitsOf_17 : decode cX8_bitsOf 17 = .ok (.goto (-13), 3) := by decide +kernel
theorem dX8_bitsOf_20 : decode cX8_bitsOf 20 = .ok (.iload_n 1, 1) := by decide +kernel
theorem dX8_bitsOf_21 : decode cX8_bitsOf 21 = .ok (.ireturn, 1) := by decide +kernel
theorem dX8_doesWait_0 : decode cX8_doesWait 0 = .ok (.iload_n 1, 1) := by decide +kernel
theorem dX8_doesWait_1 : decode cX8_doesWait 1 = .ok (.istore_n 3, 1) := by decide +kernel
theorem dX8_doesWait_2 : decode cX8_doesWait 2 = .ok (.iload_n 3, 1) := by decide +kernel
theorem dX8_doesWait_3 : decode cX8_doesWait 3 = .ok (.bipush (-2), 2) := by decide +kernel
theorem dX8_doesWait_5 : decode cX8_doesWait 5 = .ok (.if_icmp .eq 22, 3) := by decide +kernel
theorem dX8_doesWait_8 : decode cX8_doesWait 8 = .ok (.iload_n 3, 1) := by decide +kernel
theorem dX8_doesWait_9 : decode cX8_doesWait 9 = .ok (.iload_n 2, 1) := by decide +kernel
theorem dX8_doesWait_10 : decode cX8_doesWait 10 = .ok (.if_icmp .eq 17, 3) := by decide +kernel
theorem dX8_doesWait_13 : decode cX8_doesWait 13 = .ok (.aload_n 0, 1) := by decide +kernel
theorem dX8_doesWait_14 : decode cX8_doesWait 14 = .ok (.getfield 27, 3) := by decide +kernel
theorem dX8_doesWait_17 : decode cX8_doesWait 17 = .ok (.iload_n 3, 1) := by decide +kernel
theorem dX8_doesWait_18 : decode cX8_doesWait 18 = .ok (.iconst 3, 1) := by decide +kernel
theorem dX8_doesWait_19 : decode cX8_doesWait 19 = .ok (.invokestatic 201, 3) := by decide +kernel
theorem dX8_doesWait_22 : decode cX8_doesWait 22 = .ok (.iaload, 1) := by decide +kernel
theorem dX8_doesWait_23 : decode cX8_doesWait 23 = .ok (.istore_n 3, 1) := by decide +kernel
theorem dX8_doesWait_24 : decode cX8_doesWait 24 = .ok (.goto (-22), 3) := by decide +kernel
theorem dX8_doesWait_27 : decode cX8_doesWait 27 = .ok (.iload_n 3, 1) := by decide +kernel
theorem dX8_doesWait_28 : decode cX8_doesWait 28 = .ok (.iload_n 2, 1) := by decide +kernel
theorem dX8_doesWait_29 : decode cX8_doesWait 29 = .ok (.if_icmp .ne 7, 3) := by decide +kernel
theorem dX8_doesWait_32 : decode cX8_doesWait 32 = .ok (.iconst 1, 1) := by decide +kernel
theorem dX8_doesWait_33 : decode cX8_doesWait 33 = .ok (.goto 4, 3) := by decide +kernel
theorem dX8_doesWait_36 : decode cX8_doesWait 36 = .ok (.iconst 0, 1) := by decide +kernel
theorem dX8_doesWait_37 : decode cX8_doesWait 37 = .ok (.ireturn, 1) := by decide +kernel
theorem dX8_rankOf_0 : decode cX8_rankOf 0 = .ok (.iconst 0, 1) := by decide +kernel
theorem dX8_rankOf_1 : decode cX8_rankOf 1 = .ok (.istore_n 2, 1) := by decide +kernel
theorem dX8_rankOf_2 : decode cX8_rankOf 2 = .ok (.iconst 0, 1) := by decide +kernel
theorem dX8_rankOf_3 : decode cX8_rankOf 3 = .ok (.istore_n 3, 1) := by decide +kernel
theorem dX8_rankOf_4 : decode cX8_rankOf 4 = .ok (.iload_n 3, 1) := by decide +kernel
theorem dX8_rankOf_5 : decode cX8_rankOf 5 = .ok (.aload_n 0, 1) := by decide +kernel
theorem dX8_rankOf_6 : decode cX8_rankOf 6 = .ok (.getfield 17, 3) := by decide +kernel
theorem dX8_rankOf_9 : decode cX8_rankOf 9 = .ok (.iconst 3, 1) := by decide +kernel
theorem dX8_rankOf_10 : decode cX8_rankOf 10 = .ok (.iaload, 1) := by decide +kernel
theorem dX8_rankOf_11 : decode cX8_rankOf 11 = .ok (.if_icmp .ge 45, 3) := by decide +kernel
theorem dX8_rankOf_14 : decode cX8_rankOf 14 = .ok (.aload_n 0, 1) := by decide +kernel
theorem dX8_rankOf_15 : decode cX8_rankOf 15 = .ok (.iload_n 3, 1) := by decide +kernel
theorem dX8_rankOf_16 : decode cX8_rankOf 16 = .ok (.iload_n 1, 1) := by decide +kernel
theorem dX8_rankOf_17 : decode cX8_rankOf 17 = .ok (.invokevirtual 205, 3) := by decide +kernel
theorem dX8_rankOf_20 : decode cX8_rankOf 20 = .ok (.ifCond .eq 28, 3) := by decide +kernel
theorem dX8_rankOf_23 : decode cX8_rankOf 23 = .ok (.aload_n 0, 1) := by decide +kernel
theorem dX8_rankOf_24 : decode cX8_rankOf 24 = .ok (.getfield 17, 3) := by decide +kernel
theorem dX8_rankOf_27 : decode cX8_rankOf 27 = .ok (.bipush 17, 2) := by decide +kernel
theorem dX8_rankOf_29 : decode cX8_rankOf 29 = .ok (.iload_n 3, 1) := by decide +kernel
theorem dX8_rankOf_30 : decode cX8_rankOf 30 = .ok (.iadd, 1) := by decide +kernel
theorem dX8_rankOf_31 : decode cX8_rankOf 31 = .ok (.iaload, 1) := by decide +kernel
theorem dX8_rankOf_32 : decode cX8_rankOf 32 = .ok (.iload_n 2, 1) := by decide +kernel
theorem dX8_rankOf_33 : decode cX8_rankOf 33 = .ok (.if_icmp .le 15, 3) := by decide +kernel
theorem dX8_rankOf_36 : decode cX8_rankOf 36 = .ok (.aload_n 0, 1) := by decide +kernel
theorem dX8_rankOf_37 : decode cX8_rankOf 37 = .ok (.getfield 17, 3) := by decide +kernel
theorem dX8_rankOf_40 : decode cX8_rankOf 40 = .ok (.bipush 17, 2) := by decide +kernel
theorem dX8_rankOf_42 : decode cX8_rankOf 42 = .ok (.iload_n 3, 1) := by decide +kernel
theorem dX8_rankOf_43 : decode cX8_rankOf 43 = .ok (.iadd, 1) := by decide +kernel
theorem dX8_rankOf_44 : decode cX8_rankOf 44 = .ok (.iaload, 1) := by decide +kernel
theorem dX8_rankOf_45 : decode cX8_rankOf 45 = .ok (.goto 4, 3) := by decide +kernel
theorem dX8_rankOf_48 : decode cX8_rankOf 48 = .ok (.iload_n 2, 1) := by decide +kernel
theorem dX8_rankOf_49 : decode cX8_rankOf 49 = .ok (.istore_n 2, 1) := by decide +kernel
theorem dX8_rankOf_50 : decode cX8_rankOf 50 = .ok (.iinc 3 1, 3) := by decide +kernel
theorem dX8_rankOf_53 : decode cX8_rankOf 53 = .ok (.goto (-49), 3) := by decide +kernel
theorem dX8_rankOf_56 : decode cX8_rankOf 56 = .ok (.iload_n 2, 1) := by decide +kernel
theorem dX8_rankOf_57 : decode cX8_rankOf 57 = .ok (.ireturn, 1) := by decide +kernel
theorem dX8_odd_0 : decode cX8_odd 0 = .ok (.iload_n 0, 1) := by decide +kernel
theorem dX8_odd_1 : decode cX8_odd 1 = .ok (.invokestatic 209, 3) := by decide +kernel
theorem dX8_odd_4 : decode cX8_odd 4 = .ok (.iconst 2, 1) := by decide +kernel
theorem dX8_odd_5 : decode cX8_odd 5 = .ok (.irem, 1) := by decide +kernel
theorem dX8_odd_6 : decode cX8_odd 6 = .ok (.iconst 1, 1) := by decide +kernel
theorem dX8_odd_7 : decode cX8_odd 7 = .ok (.if_icmp .ne 7, 3) := by decide +kernel
theorem dX8_odd_10 : decode cX8_odd 10 = .ok (.iload_n 0, 1) := by decide +kernel
theorem dX8_odd_11 : decode cX8_odd 11 = .ok (.goto 6, 3) := by decide +kernel
theorem dX8_odd_14 : decode cX8_odd 14 = .ok (.iload_n 0, 1) := by decide +kernel
theorem dX8_odd_15 : decode cX8_odd 15 = .ok (.iconst 1, 1) := by decide +kernel
theorem dX8_odd_16 : decode cX8_odd 16 = .ok (.iadd, 1) := by decide +kernel
theorem dX8_odd_17 : decode cX8_odd 17 = .ok (.ireturn, 1) := by decide +kernel
theorem dX8_wordOf_0 : decode cX8_wordOf 0 = .ok (.iload_n 2, 1) := by decide +kernel
theorem dX8_wordOf_1 : decode cX8_wordOf 1 = .ok (.iconst 1, 1) := by decide +kernel
theorem dX8_wordOf_2 : decode cX8_wordOf 2 = .ok (.if_icmp .ne 30, 3) := by decide +kernel
theorem dX8_wordOf_5 : decode cX8_wordOf 5 = .ok (.bipush 8, 2) := by decide +kernel
theorem dX8_wordOf_7 : decode cX8_wordOf 7 = .ok (.aload_n 0, 1) := by decide +kernel
theorem dX8_wordOf_8 : decode cX8_wordOf 8 = .ok (.iload_n 1, 1) := by decide +kernel
theorem dX8_wordOf_9 : decode cX8_wordOf 9 = .ok (.invokevirtual 212, 3) := by decide +kernel
theorem dX8_wordOf_12 : decode cX8_wordOf 12 = .ok (.imul, 1) := by decide +kernel
theorem dX8_wordOf_13 : decode cX8_wordOf 13 = .ok (.iconst 4, 1) := by decide +kernel
theorem dX8_wordOf_14 : decode cX8_wordOf 14 = .ok (.aload_n 0, 1) := by decide +kernel
theorem dX8_wordOf_15 : decode cX8_wordOf 15 = .ok (.getfield 27, 3) := by decide +kernel
theorem dX8_wordOf_18 : decode cX8_wordOf 18 = .ok (.iload_n 1, 1) := by decide +kernel
theorem dX8_wordOf_19 : decode cX8_wordOf 19 = .ok (.iconst 2, 1) := by decide +kernel
theorem dX8_wordOf_20 : decode cX8_wordOf 20 = .ok (.invokestatic 201, 3) := by decide +kernel
theorem dX8_wordOf_23 : decode cX8_wordOf 23 = .ok (.iaload, 1) := by decide +kernel
theorem dX8_wordOf_24 : decode cX8_wordOf 24 = .ok (.imul, 1) := by decide +kernel
theorem dX8_wordOf_25 : decode cX8_wordOf 25 = .ok (.iadd, 1) := by decide +kernel
theorem dX8_wordOf_26 : decode cX8_wordOf 26 = .ok (.invokestatic 215, 3) := by decide +kernel
theorem dX8_wordOf_29 : decode cX8_wordOf 29 = .ok (.goto 17, 3) := by decide +kernel
theorem dX8_wordOf_32 : decode cX8_wordOf 32 = .ok (.iconst 2, 1) := by decide +kernel
theorem dX8_wordOf_33 : decode cX8_wordOf 33 = .ok (.aload_n 0, 1) := by decide +kernel
theorem dX8_wordOf_34 : decode cX8_wordOf 34 = .ok (.getfield 17, 3) := by decide +kernel
theorem dX8_wordOf_37 : decode cX8_wordOf 37 = .ok (.bipush 11, 2) := by decide +kernel
theorem dX8_wordOf_39 : decode cX8_wordOf 39 = .ok (.iload_n 1, 1) := by decide +kernel
theorem dX8_wordOf_40 : decode cX8_wordOf 40 = .ok (.iadd, 1) := by decide +kernel
theorem dX8_wordOf_41 : decode cX8_wordOf 41 = .ok (.iaload, 1) := by decide +kernel
theorem dX8_wordOf_42 : decode cX8_wordOf 42 = .ok (.imul, 1) := by decide +kernel
theorem dX8_wordOf_43 : decode cX8_wordOf 43 = .ok (.invokestatic 215, 3) := by decide +kernel
theorem dX8_wordOf_46 : decode cX8_wordOf 46 = .ok (.ireturn, 1) := by decide +kernel
theorem dX8_slotsApart_0 : decode cX8_slotsApart 0 = .ok (.aload_n 0, 1) := by decide +kernel
theorem dX8_slotsApart_1 : decode cX8_slotsApart 1 = .ok (.getfield 17, 3) := by decide +kernel
theorem dX8_slotsApart_4 : decode cX8_slotsApart 4 = .ok (.iconst 5, 1) := by decide +kernel
theorem dX8_slotsApart_5 : decode cX8_slotsApart 5 = .ok (.iload_n 1, 1) := by decide +kernel
theorem dX8_slotsApart_6 : decode cX8_slotsApart 6 = .ok (.iadd, 1) := by decide +kernel
theorem dX8_slotsApart_7 : decode cX8_slotsApart 7 = .ok (.iaload, 1) := by decide +kernel
theorem dX8_slotsApart_8 : decode cX8_slotsApart 8 = .ok (.aload_n 0, 1) := by decide +kernel
theorem dX8_slotsApart_9 : decode cX8_slotsApart 9 = .ok (.getfield 17, 3) := by decide +kernel
theorem dX8_slotsApart_12 : decode cX8_slotsApart 12 = .ok (.iconst 5, 1) := by decide +kernel
theorem dX8_slotsApart_13 : decode cX8_slotsApart 13 = .ok (.iload_n 2, 1) := by decide +kernel
theorem dX8_slotsApart_14 : decode cX8_slotsApart 14 = .ok (.iadd, 1) := by decide +kernel
theorem dX8_slotsApart_15 : decode cX8_slotsApart 15 = .ok (.iaload, 1) := by decide +kernel
theorem dX8_slotsApart_16 : decode cX8_slotsApart 16 = .ok (.isub, 1) := by decide +kernel
theorem dX8_slotsApart_17 : decode cX8_slotsApart 17 = .ok (.istore_n 3, 1) := by decide +kernel
theorem dX8_slotsApart_18 : decode cX8_slotsApart 18 = .ok (.iload_n 3, 1) := by decide +kernel
theorem dX8_slotsApart_19 : decode cX8_slotsApart 19 = .ok (.ifCond .ge 8, 3) := by decide +kernel
theorem dX8_slotsApart_22 : decode cX8_slotsApart 22 = .ok (.iload_n 3, 1) := by decide +kernel
theorem dX8_slotsApart_23 : decode cX8_slotsApart 23 = .ok (.ineg, 1) := by decide +kernel
theorem dX8_slotsApart_24 : decode cX8_slotsApart 24 = .ok (.goto 4, 3) := by decide +kernel
theorem dX8_slotsApart_27 : decode cX8_slotsApart 27 = .ok (.iload_n 3, 1) := by decide +kernel
theorem dX8_slotsApart_28 : decode cX8_slotsApart 28 = .ok (.ireturn, 1) := by decide +kernel
theorem dX8_cell_0 : decode cX8_cell 0 = .ok (.sipush 401, 3) := by decide +kernel
theorem dX8_cell_3 : decode cX8_cell 3 = .ok (.iload_n 0, 1) := by decide +kernel
theorem dX8_cell_4 : decode cX8_cell 4 = .ok (.imul, 1) := by decide +kernel
theorem dX8_cell_5 : decode cX8_cell 5 = .ok (.iload_n 1, 1) := by decide +kernel
theorem dX8_cell_6 : decode cX8_cell 6 = .ok (.iadd, 1) := by decide +kernel
theorem dX8_cell_7 : decode cX8_cell 7 = .ok (.ireturn, 1) := by decide +kernel
theorem dX8_drivesAt_0 : decode cX8_drivesAt 0 = .ok (.aload_n 0, 1) := by decide +kernel
theorem dX8_drivesAt_1 : decode cX8_drivesAt 1 = .ok (.getfield 218, 3) := by decide +kernel
theorem dX8_drivesAt_4 : decode cX8_drivesAt 4 = .ok (.iload_n 1, 1) := by decide +kernel
theorem dX8_drivesAt_5 : decode cX8_drivesAt 5 = .ok (.invokestatic 221, 3) := by decide +kernel
theorem dX8_drivesAt_8 : decode cX8_drivesAt 8 = .ok (.ifCond .eq 12, 3) := by decide +kernel
theorem dX8_drivesAt_11 : decode cX8_drivesAt 11 = .ok (.aload_n 0, 1) := by decide +kernel
theorem dX8_drivesAt_12 : decode cX8_drivesAt 12 = .ok (.getfield 36, 3) := by decide +kernel
theorem dX8_drivesAt_15 : decode cX8_drivesAt 15 = .ok (.iload_n 1, 1) := by decide +kernel
theorem dX8_drivesAt_16 : decode cX8_drivesAt 16 = .ok (.iaload, 1) := by decide +kernel
theorem dX8_drivesAt_17 : decode cX8_drivesAt 17 = .ok (.goto 4, 3) := by decide +kernel
theorem dX8_drivesAt_20 : decode cX8_drivesAt 20 = .ok (.iconst 0, 1) := by decide +kernel
theorem dX8_drivesAt_21 : decode cX8_drivesAt 21 = .ok (.istore_n 3, 1) := by decide +kernel
theorem dX8_drivesAt_22 : decode cX8_drivesAt 22 = .ok (.aload_n 0, 1) := by decide +kernel
theorem dX8_drivesAt_23 : decode cX8_drivesAt 23 = .ok (.getfield 17, 3) := by decide +kernel
theorem dX8_drivesAt_26 : decode cX8_drivesAt 26 = .ok (.iconst 0, 1) := by decide +kernel
theorem dX8_drivesAt_27 : decode cX8_drivesAt 27 = .ok (.iaload, 1) := by decide +kernel
theorem dX8_drivesAt_28 : decode cX8_drivesAt 28 = .ok (.istore 4, 2) := by decide +kernel
theorem dX8_drivesAt_30 : decode cX8_drivesAt 30 = .ok (.iload_n 2, 1) := by decide +kernel
theorem dX8_drivesAt_31 : decode cX8_drivesAt 31 = .ok (.iload 4, 2) := by decide +kernel
theorem dX8_drivesAt_33 : decode cX8_drivesAt 33 = .ok (.if_icmp .ge 8, 3) := by decide +kernel
theorem dX8_drivesAt_36 : decode cX8_drivesAt 36 = .ok (.bipush (-2), 2) := by decide +kernel
theorem dX8_drivesAt_38 : decode cX8_drivesAt 38 = .ok (.goto 16, 3) := by decide +kernel
theorem dX8_drivesAt_41 : decode cX8_drivesAt 41 = .ok (.aload_n 0, 1) := by decide +kernel
theorem dX8_drivesAt_42 : decode cX8_drivesAt 42 = .ok (.getfield 48, 3) := by decide +kernel
theorem dX8_drivesAt_45 : decode cX8_drivesAt 45 = .ok (.iload_n 1, 1) := by decide +kernel
theorem dX8_drivesAt_46 : decode cX8_drivesAt 46 = .ok (.iload_n 2, 1) := by decide +kernel
theorem dX8_drivesAt_47 : decode cX8_drivesAt 47 = .ok (.iload 4, 2) := by decide +kernel
theorem dX8_drivesAt_49 : decode cX8_drivesAt 49 = .ok (.isub, 1) := by decide +kernel
theorem dX8_drivesAt_50 : decode cX8_drivesAt 50 = .ok (.invokestatic 224, 3) := by decide +kernel
theorem dX8_drivesAt_53 : decode cX8_drivesAt 53 = .ok (.iaload, 1) := by decide +kernel
theorem dX8_drivesAt_54 : decode cX8_drivesAt 54 = .ok (.istore 5, 2) := by decide +kernel
theorem dX8_drivesAt_56 : decode cX8_drivesAt 56 = .ok (.aload_n 0, 1) := by decide +kernel
theorem dX8_drivesAt_57 : decode cX8_drivesAt 57 = .ok (.getfield 39, 3) := by decide +kernel
theorem dX8_drivesAt_60 : decode cX8_drivesAt 60 = .ok (.iload_n 1, 1) := by decide +kernel
theorem dX8_drivesAt_61 : decode cX8_drivesAt 61 = .ok (.iload_n 2, 1) := by decide +kernel
theorem dX8_drivesAt_62 : decode cX8_drivesAt 62 = .ok (.invokestatic 224, 3) := by decide +kernel
theorem dX8_drivesAt_65 : decode cX8_drivesAt 65 = .ok (.iload 5, 2) := by decide +kernel
theorem dX8_drivesAt_67 : decode cX8_drivesAt 67 = .ok (.bipush (-2), 2) := by decide +kernel
theorem dX8_drivesAt_69 : decode cX8_drivesAt 69 = .ok (.if_icmp .ne 7, 3) := by decide +kernel
theorem dX8_drivesAt_72 : decode cX8_drivesAt 72 = .ok (.iload_n 3, 1) := by decide +kernel
theorem dX8_drivesAt_73 : decode cX8_drivesAt 73 = .ok (.goto 14, 3) := by decide +kernel
theorem dX8_drivesAt_76 : decode cX8_drivesAt 76 = .ok (.iload_n 3, 1) := by decide +kernel
theorem dX8_drivesAt_77 : decode cX8_drivesAt 77 = .ok (.iload 5, 2) := by decide +kernel
theorem dX8_drivesAt_79 : decode cX8_drivesAt 79 = .ok (.iconst 1, 1) := by decide +kernel
theorem dX8_drivesAt_80 : decode cX8_drivesAt 80 = .ok (.iadd, 1) := by decide +kernel
theorem dX8_drivesAt_81 : decode cX8_drivesAt 81 = .ok (.ishr, 1) := by decide +kernel
theorem dX8_drivesAt_82 : decode cX8_drivesAt 82 = .ok (.iload 5, 2) := by decide +kernel
theorem dX8_drivesAt_84 : decode cX8_drivesAt 84 = .ok (.iconst 1, 1) := by decide +kernel
theorem dX8_drivesAt_85 : decode cX8_drivesAt 85 = .ok (.iadd, 1) := by decide +kernel
theorem dX8_drivesAt_86 : decode cX8_drivesAt 86 = .ok (.ishl, 1) := by decide +kernel
theorem dX8_drivesAt_87 : decode cX8_drivesAt 87 = .ok (.iastore, 1) := by decide +kernel
theorem dX8_drivesAt_88 : decode cX8_drivesAt 88 = .ok (.return_, 1) := by decide +kernel
theorem dX8_nearest_0 : decode cX8_nearest 0 = .ok (.iconst 0, 1) := by decide +kernel
theorem dX8_nearest_1 : decode cX8_nearest 1 = .ok (.istore 4, 2) := by decide +kernel
theorem dX8_nearest_3 : decode cX8_nearest 3 = .ok (.iconst 0, 1) := by decide +kernel
theorem dX8_nearest_4 : decode cX8_nearest 4 = .ok (.istore 5, 2) := by decide +kernel
theorem dX8_nearest_6 : decode cX8_nearest 6 = .ok (.iload 5, 2) := by decide +kernel
theorem dX8_nearest_8 : decode cX8_nearest 8 = .ok (.aload_n 0, 1) := by decide +kernel
theorem dX8_nearest_9 : decode cX8_nearest 9 = .ok (.getfield 17, 3) := by decide +kernel
theorem dX8_nearest_12 : decode cX8_nearest 12 = .ok (.iconst 3, 1) := by decide +kernel
theorem dX8_nearest_13 : decode cX8_nearest 13 = .ok (.iaload, 1) := by decide +kernel
theorem dX8_nearest_14 : decode cX8_nearest 14 = .ok (.if_icmp .ge 63, 3) := by decide +kernel
theorem dX8_nearest_17 : decode cX8_nearest 17 = .ok (.aload_n 0, 1) := by decide +kernel
theorem dX8_nearest_18 : decode cX8_nearest 18 = .ok (.iload_n 1, 1) := by decide +kernel
theorem dX8_nearest_19 : decode cX8_nearest 19 = .ok (.iload 5, 2) := by decide +kernel
theorem dX8_nearest_21 : decode cX8_nearest 21 = .ok (.invokevirtual 227, 3) := by decide +kernel
theorem dX8_nearest_24 : decode cX8_nearest 24 = .ok (.istore 6, 2) := by decide +kernel
theorem dX8_nearest_26 : decode cX8_nearest 26 = .ok (.iload 5, 2) := by decide +kernel
theorem dX8_nearest_28 : decode cX8_nearest 28 = .ok (.iload_n 1, 1) := by decide +kernel
theorem dX8_nearest_29 : decode cX8_nearest 29 = .ok (.if_icmp .eq 38, 3) := by decide +kernel
theorem dX8_nearest_32 : decode cX8_nearest 32 = .ok (.aload_n 0, 1) := by decide +kernel
theorem dX8_nearest_33 : decode cX8_nearest 33 = .ok (.getfield 39, 3) := by decide +kernel
theorem dX8_nearest_36 : decode cX8_nearest 36 = .ok (.iload 5, 2) := by decide +kernel
theorem dX8_nearest_38 : decode cX8_nearest 38 = .ok (.iload_n 3, 1) := by decide +kernel
theorem dX8_nearest_39 : decode cX8_nearest 39 = .ok (.invokestatic 224, 3) := by decide +kernel
theorem dX8_nearest_42 : decode cX8_nearest 42 = .ok (.iaload, 1) := by decide +kernel
theorem dX8_nearest_43 : decode cX8_nearest 43 = .ok (.iload_n 2, 1) := by decide +kernel
theorem dX8_nearest_44 : decode cX8_nearest 44 = .ok (.invokestatic 221, 3) := by decide +kernel
theorem dX8_nearest_47 : decode cX8_nearest 47 = .ok (.ifCond .eq 20, 3) := by decide +kernel
theorem dX8_nearest_50 : decode cX8_nearest 50 = .ok (.iload 4, 2) := by decide +kernel
theorem dX8_nearest_52 : decode cX8_nearest 52 = .ok (.ifCond .eq 10, 3) := by decide +kernel
theorem dX8_nearest_55 : decode cX8_nearest 55 = .ok (.iload 6, 2) := by decide +kernel
theorem dX8_nearest_57 : decode cX8_nearest 57 = .ok (.iload 4, 2) := by decide +kernel
theorem dX8_nearest_59 : decode cX8_nearest 59 = .ok (.if_icmp .ge 8, 3) := by decide +kernel
theorem dX8_nearest_62 : decode cX8_nearest 62 = .ok (.iload 6, 2) := by decide +kernel
theorem dX8_nearest_64 : decode cX8_nearest 64 = .ok (.goto 5, 3) := by decide +kernel
theorem dX8_nearest_67 : decode cX8_nearest 67 = .ok (.iload 4, 2) := by decide +kernel
theorem dX8_nearest_69 : decode cX8_nearest 69 = .ok (.istore 4, 2) := by decide +kernel
theorem dX8_nearest_71 : decode cX8_nearest 71 = .ok (.iinc 5 1, 3) := by decide +kernel
theorem dX8_nearest_74 : decode cX8_nearest 74 = .ok (.goto (-68), 3) := by decide +kernel
theorem dX8_nearest_77 : decode cX8_nearest 77 = .ok (.iload 4, 2) := by decide +kernel
theorem dX8_nearest_79 : decode cX8_nearest 79 = .ok (.ireturn, 1) := by decide +kernel
theorem dX8_dipsAt_0 : decode cX8_dipsAt 0 = .ok (.iload_n 2, 1) := by decide +kernel
theorem dX8_dipsAt_1 : decode cX8_dipsAt 1 = .ok (.ifCond .ne 7, 3) := by decide +kernel
theorem dX8_dipsAt_4 : decode cX8_dipsAt 4 = .ok (.iconst 0, 1) := by decide +kernel
theorem dX8_dipsAt_5 : decode cX8_dipsAt 5 = .ok (.goto 28, 3) := by decide +kernel
theorem dX8_dipsAt_8 : decode cX8_dipsAt 8 = .ok (.aload_n 0, 1) := by decide +kernel
theorem dX8_dipsAt_9 : decode cX8_dipsAt 9 = .ok (.getfield 39, 3) := by decide +kernel
theorem dX8_dipsAt_12 : decode cX8_dipsAt 12 = .ok (.iload_n 1, 1) := by decide +kernel
theorem dX8_dipsAt_13 : decode cX8_dipsAt 13 = .ok (.iload_n 2, 1) := by decide +kernel
theorem dX8_dipsAt_14 : decode cX8_dipsAt 14 = .ok (.iconst 1, 1) := by decide +kernel
theorem dX8_dipsAt_15 : decode cX8_dipsAt 15 = .ok (.isub, 1) := by decide +kernel
theorem dX8_dipsAt_16 : decode cX8_dipsAt 16 = .ok (.invokestatic 224, 3) := by decide +kernel
theorem dX8_dipsAt_19 : decode cX8_dipsAt 19 = .ok (.iaload, 1) := by decide +kernel
theorem dX8_dipsAt_20 : decode cX8_dipsAt 20 = .ok (.aload_n 0, 1) := by decide +kernel
theorem dX8_dipsAt_21 : decode cX8_dipsAt 21 = .ok (.getfield 39, 3) := by decide +kernel
theorem dX8_dipsAt_24 : decode cX8_dipsAt 24 = .ok (.iload_n 1, 1) := by decide +kernel
theorem dX8_dipsAt_25 : decode cX8_dipsAt 25 = .ok (.iload_n 2, 1) := by decide +kernel
theorem dX8_dipsAt_26 : decode cX8_dipsAt 26 = .ok (.invokestatic 224, 3) := by decide +kernel
theorem dX8_dipsAt_29 : decode cX8_dipsAt 29 = .ok (.iaload, 1) := by decide +kernel
theorem dX8_dipsAt_30 : decode cX8_dipsAt 30 = .ok (.iconst (-1), 1) := by decide +kernel
theorem dX8_dipsAt_31 : decode cX8_dipsAt 31 = .ok (.ixor, 1) := by decide +kernel
theorem dX8_dipsAt_32 : decode cX8_dipsAt 32 = .ok (.iand, 1) := by decide +kernel
theorem dX8_dipsAt_33 : decode cX8_dipsAt 33 = .ok (.istore_n 3, 1) := by decide +kernel
theorem dX8_dipsAt_34 : decode cX8_dipsAt 34 = .ok (.iconst 0, 1) := by decide +kernel
theorem dX8_dipsAt_35 : decode cX8_dipsAt 35 = .ok (.istore 4, 2) := by decide +kernel
theorem dX8_dipsAt_37 : decode cX8_dipsAt 37 = .ok (.iload 4, 2) := by decide +kernel
theorem dX8_dipsAt_39 : decode cX8_dipsAt 39 = .ok (.bipush 6, 2) := by decide +kernel
theorem dX8_dipsAt_41 : decode cX8_dipsAt 41 = .ok (.if_icmp .ge 124, 3) := by decide +kernel
theorem dX8_dipsAt_44 : decode cX8_dipsAt 44 = .ok (.iload_n 3, 1) := by decide +kernel
theorem dX8_dipsAt_45 : decode cX8_dipsAt 45 = .ok (.iload 4, 2) := by decide +kernel
theorem dX8_dipsAt_47 : decode cX8_dipsAt 47 = .ok (.invokestatic 221, 3) := by decide +kernel
theorem dX8_dipsAt_50 : decode cX8_dipsAt 50 = .ok (.ifCond .eq 14, 3) := by decide +kernel
theorem dX8_dipsAt_53 : decode cX8_dipsAt 53 = .ok (.aload_n 0, 1) := by decide +kernel
theorem dX8_dipsAt_54 : decode cX8_dipsAt 54 = .ok (.iload_n 1, 1) := by decide +kernel
theorem dX8_dipsAt_55 : decode cX8_dipsAt 55 = .ok (.iload 4, 2) := by decide +kernel
theorem dX8_dipsAt_57 : decode cX8_dipsAt 57 = .ok (.iload_n 2, 1) := by decide +kernel
theorem dX8_dipsAt_58 : decode cX8_dipsAt 58 = .ok (.invokevirtual 230, 3) := by decide +kernel
theorem dX8_dipsAt_61 : decode cX8_dipsAt 61 = .ok (.goto 4, 3) := by decide +kernel
theorem dX8_dipsAt_64 : decode cX8_dipsAt 64 = .ok (.iconst 0, 1) := by decide +kernel
theorem dX8_dipsAt_65 : decode cX8_dipsAt 65 = .ok (.istore 5, 2) := by decide +kernel
theorem dX8_dipsAt_67 : decode cX8_dipsAt 67 = .ok (.iload 5, 2) := by decide +kernel
theorem dX8_dipsAt_69 : decode cX8_dipsAt 69 = .ok (.ifCond .ne 6, 3) := by decide +kernel
theorem dX8_dipsAt_72 : decode cX8_dipsAt 72 = .ok (.goto 87, 3) := by decide +kernel
theorem dX8_dipsAt_75 : decode cX8_dipsAt 75 = .ok (.aload_n 0, 1) := by decide +kernel
theorem dX8_dipsAt_76 : decode cX8_dipsAt 76 = .ok (.dup, 1) := by decide +kernel
theorem dX8_dipsAt_77 : decode cX8_dipsAt 77 = .ok (.getfield 234, 3) := by decide +kernel
theorem dX8_dipsAt_80 : decode cX8_dipsAt 80 = .ok (.iconst 1, 1) := by decide +kernel
theorem dX8_dipsAt_81 : decode cX8_dipsAt 81 = .ok (.iadd, 1) := by decide +kernel
theorem dX8_dipsAt_82 : decode cX8_dipsAt 82 = .ok (.putfield 234, 3) := by decide +kernel
theorem dX8_dipsAt_85 : decode cX8_dipsAt 85 = .ok (.iconst 0, 1) := by decide +kernel
theorem dX8_dipsAt_86 : decode cX8_dipsAt 86 = .ok (.istore 6, 2) := by decide +kernel
theorem dX8_dipsAt_88 : decode cX8_dipsAt 88 = .ok (.iload 6, 2) := by decide +kernel
theorem dX8_dipsAt_90 : decode cX8_dipsAt 90 = .ok (.aload_n 0, 1) := by decide +kernel
theorem dX8_dipsAt_91 : decode cX8_dipsAt 91 = .ok (.getfield 17, 3) := by decide +kernel
theorem dX8_dipsAt_94 : decode cX8_dipsAt 94 = .ok (.iconst 3, 1) := by decide +kernel
theorem dX8_dipsAt_95 : decode cX8_dipsAt 95 = .ok (.iaload, 1) := by decide +kernel
theorem dX8_dipsAt_96 : decode cX8_dipsAt 96 = .ok (.if_icmp .ge 63, 3) := by decide +kernel
theorem dX8_dipsAt_99 : decode cX8_dipsAt 99 = .ok (.iload_n 2, 1) := by decide +kernel
theorem dX8_dipsAt_100 : decode cX8_dipsAt 100 = .ok (.aload_n 0, 1) := by decide +kernel
theorem dX8_dipsAt_101 : decode cX8_dipsAt 101 = .ok (.iload_n 1, 1) := by decide +kernel
theorem dX8_dipsAt_102 : decode cX8_dipsAt 102 = .ok (.iload 6, 2) := by decide +kernel
theorem dX8_dipsAt_104 : decode cX8_dipsAt 104 = .ok (.invokevirtual 227, 3) := by decide +kernel
theorem dX8_dipsAt_107 : decode cX8_dipsAt 107 = .ok (.iadd, 1) := by decide +kernel
theorem dX8_dipsAt_108 : decode cX8_dipsAt 108 = .ok (.istore 7, 2) := by decide +kernel
theorem dX8_dipsAt_110 : decode cX8_dipsAt 110 = .ok (.iload 7, 2) := by decide +kernel
theorem dX8_dipsAt_112 : decode cX8_dipsAt 112 = .ok (.istore 8, 2) := by decide +kernel
theorem dX8_dipsAt_114 : decode cX8_dipsAt 114 = .ok (.iload 8, 2) := by decide +kernel
theorem dX8_dipsAt_116 : decode cX8_dipsAt 116 = .ok (.iload 7, 2) := by decide +kernel
theorem dX8_dipsAt_118 : decode cX8_dipsAt 118 = .ok (.iconst 2, 1) := by decide +kernel
theorem dX8_dipsAt_119 : decode cX8_dipsAt 119 = .ok (.iload 5, 2) := by decide +kernel
theorem dX8_dipsAt_121 : decode cX8_dipsAt 121 = .ok (.imul, 1) := by decide +kernel
theorem dX8_dipsAt_122 : decode cX8_dipsAt 122 = .ok (.iadd, 1) := by decide +kernel
theorem dX8_dipsAt_123 : decode cX8_dipsAt 123 = .ok (.if_icmp .ge 30, 3) := by decide +kernel
theorem dX8_dipsAt_126 : decode cX8_dipsAt 126 = .ok (.aload_n 0, 1) := by decide +kernel
theorem dX8_dipsAt_127 : decode cX8_dipsAt 127 = .ok (.getfield 51, 3) := by decide +kernel
theorem dX8_dipsAt_130 : decode cX8_dipsAt 130 = .ok (.sipush 461, 3) := by decide +kernel
theorem dX8_dipsAt_133 : decode cX8_dipsAt 133 = .ok (.iload 6, 2) := by decide +kernel
theorem dX8_dipsAt_135 : decode cX8_dipsAt 135 = .ok (.imul, 1) := by decide +kernel
theorem dX8_dipsAt_136 : decode cX8_dipsAt 136 = .ok (.iload 8, 2) := by decide +kernel
theorem dX8_dipsAt_138 : decode cX8_dipsAt 138 = .ok (.iadd, 1) := by decide +kernel
theorem dX8_dipsAt_139 : decode cX8_dipsAt 139 = .ok (.dup2, 1) := by decide +kernel
theorem dX8_dipsAt_140 : decode cX8_dipsAt 140 = .ok (.iaload, 1) := by decide +kernel
theorem dX8_dipsAt_141 : decode cX8_dipsAt 141 = .ok (.iconst 1, 1) := by decide +kernel
theorem dX8_dipsAt_142 : decode cX8_dipsAt 142 = .ok (.iload 4, 2) := by decide +kernel
theorem dX8_dipsAt_144 : decode cX8_dipsAt 144 = .ok (.ishl, 1) := by decide +kernel
theorem dX8_dipsAt_145 : decode cX8_dipsAt 145 = .ok (.ior, 1) := by decide +kernel
theorem dX8_dipsAt_146 : decode cX8_dipsAt 146 = .ok (.iastore, 1) := by decide +kernel
theorem dX8_dipsAt_147 : decode cX8_dipsAt 147 = .ok (.iinc 8 1, 3) := by decide +kernel
theorem dX8_dipsAt_150 : decode cX8_dipsAt 150 = .ok (.goto (-36), 3) := by decide +kernel
theorem dX8_dipsAt_153 : decode cX8_dipsAt 153 = .ok (.iinc 6 1, 3) := by decide +kernel
theorem dX8_dipsAt_156 : decode cX8_dipsAt 156 = .ok (.goto (-68), 3) := by decide +kernel
theorem dX8_dipsAt_159 : decode cX8_dipsAt 159 = .ok (.iinc 4 1, 3) := by decide +kernel
theorem dX8_dipsAt_162 : decode cX8_dipsAt 162 = .ok (.goto (-125), 3) := by decide +kernel
theorem dX8_dipsAt_165 : decode cX8_dipsAt 165 = .ok (.return_, 1) := by decide +kernel
theorem dX8_isSeen_0 : decode cX8_isSeen 0 = .ok (.aload_n 0, 1) := by decide +kernel
theorem dX8_isSeen_1 : decode cX8_isSeen 1 = .ok (.getfield 39, 3) := by decide +kernel
theorem dX8_isSeen_4 : decode cX8_isSeen 4 = .ok (.iload_n 1, 1) := by decide +kernel
theorem dX8_isSeen_5 : decode cX8_isSeen 5 = .ok (.iload_n 3, 1) := by decide +kernel
theorem dX8_isSeen_6 : decode cX8_isSeen 6 = .ok (.invokestatic 224, 3) := by decide +kernel
theorem dX8_isSeen_9 : decode cX8_isSeen 9 = .ok (.iaload, 1) := by decide +kernel
theorem dX8_isSeen_10 : decode cX8_isSeen 10 = .ok (.iload_n 2, 1) := by decide +kernel
theorem dX8_isSeen_11 : decode cX8_isSeen 11 = .ok (.invokestatic 221, 3) := by decide +kernel
theorem dX8_isSeen_14 : decode cX8_isSeen 14 = .ok (.ifCond .eq 5, 3) := by decide +kernel
theorem dX8_isSeen_17 : decode cX8_isSeen 17 = .ok (.iconst 1, 1) := by decide +kernel
theorem dX8_isSeen_18 : decode cX8_isSeen 18 = .ok (.ireturn, 1) := by decide +kernel
theorem dX8_isSeen_19 : decode cX8_isSeen 19 = .ok (.aload_n 0, 1) := by decide +kernel
theorem dX8_isSeen_20 : decode cX8_isSeen 20 = .ok (.getfield 27, 3) := by decide +kernel
theorem dX8_isSeen_23 : decode cX8_isSeen 23 = .ok (.bipush 12, 2) := by decide +kernel
theorem dX8_isSeen_25 : decode cX8_isSeen 25 = .ok (.iload_n 2, 1) := by decide +kernel
theorem dX8_isSeen_26 : decode cX8_isSeen 26 = .ok (.iadd, 1) := by decide +kernel
theorem dX8_isSeen_27 : decode cX8_isSeen 27 = .ok (.iaload, 1) := by decide +kernel
theorem dX8_isSeen_28 : decode cX8_isSeen 28 = .ok (.ifCond .eq 22, 3) := by decide +kernel
theorem dX8_isSeen_31 : decode cX8_isSeen 31 = .ok (.aload_n 0, 1) := by decide +kernel
theorem dX8_isSeen_32 : decode cX8_isSeen 32 = .ok (.getfield 27, 3) := by decide +kernel
theorem dX8_isSeen_35 : decode cX8_isSeen 35 = .ok (.bipush 12, 2) := by decide +kernel
theorem dX8_isSeen_37 : decode cX8_isSeen 37 = .ok (.iload_n 2, 1) := by decide +kernel
theorem dX8_isSeen_38 : decode cX8_isSeen 38 = .ok (.iadd, 1) := by decide +kernel
theorem dX8_isSeen_39 : decode cX8_isSeen 39 = .ok (.iaload, 1) := by decide +kernel
theorem dX8_isSeen_40 : decode cX8_isSeen 40 = .ok (.iconst 1, 1) := by decide +kernel
theorem dX8_isSeen_41 : decode cX8_isSeen 41 = .ok (.if_icmp .ne 7, 3) := by decide +kernel
theorem dX8_isSeen_44 : decode cX8_isSeen 44 = .ok (.iconst 1, 1) := by decide +kernel
theorem dX8_isSeen_45 : decode cX8_isSeen 45 = .ok (.goto 4, 3) := by decide +kernel
theorem dX8_isSeen_48 : decode cX8_isSeen 48 = .ok (.iconst 0, 1) := by decide +kernel
theorem dX8_isSeen_49 : decode cX8_isSeen 49 = .ok (.ireturn, 1) := by decide +kernel
theorem dX8_isSeen_50 : decode cX8_isSeen 50 = .ok (.aload_n 0, 1) := by decide +kernel
theorem dX8_isSeen_51 : decode cX8_isSeen 51 = .ok (.getfield 51, 3) := by decide +kernel
theorem dX8_isSeen_54 : decode cX8_isSeen 54 = .ok (.sipush 461, 3) := by decide +kernel
theorem dX8_isSeen_57 : decode cX8_isSeen 57 = .ok (.iload_n 1, 1) := by decide +kernel
theorem dX8_isSeen_58 : decode cX8_isSeen 58 = .ok (.imul, 1) := by decide +kernel
theorem dX8_isSeen_59 : decode cX8_isSeen 59 = .ok (.iload_n 3, 1) := by decide +kernel
theorem dX8_isSeen_60 : decode cX8_isSeen 60 = .ok (.iadd, 1) := by decide +kernel
theorem dX8_isSeen_61 : decode cX8_isSeen 61 = .ok (.iaload, 1) := by decide +kernel
theorem dX8_isSeen_62 : decode cX8_isSeen 62 = .ok (.iload_n 2, 1) := by decide +kernel
theorem dX8_isSeen_63 : decode cX8_isSeen 63 = .ok (.invokestatic 221, 3) := by decide +kernel
theorem dX8_isSeen_66 : decode cX8_isSeen 66 = .ok (.ifCond .eq 5, 3) := by decide +kernel
theorem dX8_isSeen_69 : decode cX8_isSeen 69 = .ok (.iconst 0, 1) := by decide +kernel
theorem dX8_isSeen_70 : decode cX8_isSeen 70 = .ok (.ireturn, 1) := by decide +kernel
theorem dX8_isSeen_71 : decode cX8_isSeen 71 = .ok (.iconst 0, 1) := by decide +kernel
theorem dX8_isSeen_72 : decode cX8_isSeen 72 = .ok (.istore 4, 2) := by decide +kernel
theorem dX8_isSeen_74 : decode cX8_isSeen 74 = .ok (.iload 4, 2) := by decide +kernel
theorem dX8_isSeen_76 : decode cX8_isSeen 76 = .ok (.aload_n 0, 1) := by decide +kernel
theorem dX8_isSeen_77 : decode cX8_isSeen 77 = .ok (.getfield 17, 3) := by decide +kernel
theorem dX8_isSeen_80 : decode cX8_isSeen 80 = .ok (.iconst 3, 1) := by decide +kernel
theorem dX8_isSeen_81 : decode cX8_isSeen 81 = .ok (.iaload, 1) := by decide +kernel
theorem dX8_isSeen_82 : decode cX8_isSeen 82 = .ok (.if_icmp .ge 52, 3) := by decide +kernel
theorem dX8_isSeen_85 : decode cX8_isSeen 85 = .ok (.iload_n 3, 1) := by decide +kernel
theorem dX8_isSeen_86 : decode cX8_isSeen 86 = .ok (.aload_n 0, 1) := by decide +kernel
theorem dX8_isSeen_87 : decode cX8_isSeen 87 = .ok (.iload_n 1, 1) := by decide +kernel
theorem dX8_isSeen_88 : decode cX8_isSeen 88 = .ok (.iload 4, 2) := by decide +kernel
theorem dX8_isSeen_90 : decode cX8_isSeen 90 = .ok (.invokevirtual 227, 3) := by decide +kernel
theorem dX8_isSeen_93 : decode cX8_isSeen 93 = .ok (.isub, 1) := by decide +kernel
theorem dX8_isSeen_94 : decode cX8_isSeen 94 = .ok (.istore 5, 2) := by decide +kernel
theorem dX8_isSeen_96 : decode cX8_isSeen 96 = .ok (.iload 4, 2) := by decide +kernel
theorem dX8_isSeen_98 : decode cX8_isSeen 98 = .ok (.iload_n 1, 1) := by decide +kernel
theorem dX8_isSeen_99 : decode cX8_isSeen 99 = .ok (.if_icmp .eq 29, 3) := by decide +kernel
theorem dX8_isSeen_102 : decode cX8_isSeen 102 = .ok (.iload 5, 2) := by decide +kernel
theorem dX8_isSeen_104 : decode cX8_isSeen 104 = .ok (.ifCond .lt 24, 3) := by decide +kernel
theorem dX8_isSeen_107 : decode cX8_isSeen 107 = .ok (.aload_n 0, 1) := by decide +kernel
theorem dX8_isSeen_108 : decode cX8_isSeen 108 = .ok (.getfield 39, 3) := by decide +kernel
theorem dX8_isSeen_111 : decode cX8_isSeen 111 = .ok (.iload 4, 2) := by decide +kernel
theorem dX8_isSeen_113 : decode cX8_isSeen 113 = .ok (.iload 5, 2) := by decide +kernel
theorem dX8_isSeen_115 : decode cX8_isSeen 115 = .ok (.invokestatic 224, 3) := by decide +kernel
theorem dX8_isSeen_118 : decode cX8_isSeen 118 = .ok (.iaload, 1) := by decide +kernel
theorem dX8_isSeen_119 : decode cX8_isSeen 119 = .ok (.iload_n 2, 1) := by decide +kernel
theorem dX8_isSeen_120 : decode cX8_isSeen 120 = .ok (.invokestatic 221, 3) := by decide +kernel
theorem dX8_isSeen_123 : decode cX8_isSeen 123 = .ok (.ifCond .eq 5, 3) := by decide +kernel
theorem dX8_isSeen_126 : decode cX8_isSeen 126 = .ok (.iconst 1, 1) := by decide +kernel
theorem dX8_isSeen_127 : decode cX8_isSeen 127 = .ok (.ireturn, 1) := by decide +kernel
theorem dX8_isSeen_128 : decode cX8_isSeen 128 = .ok (.iinc 4 1, 3) := by decide +kernel
theorem dX8_isSeen_131 : decode cX8_isSeen 131 = .ok (.goto (-57), 3) := by decide +kernel
theorem dX8_isSeen_134 : decode cX8_isSeen 134 = .ok (.iconst 0, 1) := by decide +kernel
theorem dX8_isSeen_135 : decode cX8_isSeen 135 = .ok (.ireturn, 1) := by decide +kernel
theorem dX8_looksAt_0 : decode cX8_looksAt 0 = .ok (.iconst 0, 1) := by decide +kernel
theorem dX8_looksAt_1 : decode cX8_looksAt 1 = .ok (.istore_n 3, 1) := by decide +kernel
theorem dX8_looksAt_2 : decode cX8_looksAt 2 = .ok (.iconst 0, 1) := by decide +kernel
theorem dX8_looksAt_3 : decode cX8_looksAt 3 = .ok (.istore 4, 2) := by decide +kernel
theorem dX8_looksAt_5 : decode cX8_looksAt 5 = .ok (.iload 4, 2) := by decide +kernel
theorem dX8_looksAt_7 : decode cX8_looksAt 7 = .ok (.bipush 6, 2) := by decide +kernel
theorem dX8_looksAt_9 : decode cX8_looksAt 9 = .ok (.if_icmp .ge 31, 3) := by decide +kernel
theorem dX8_looksAt_12 : decode cX8_looksAt 12 = .ok (.iload_n 3, 1) := by decide +kernel
theorem dX8_looksAt_13 : decode cX8_looksAt 13 = .ok (.aload_n 0, 1) := by decide +kernel
theorem dX8_looksAt_14 : decode cX8_looksAt 14 = .ok (.iload_n 1, 1) := by decide +kernel
theorem dX8_looksAt_15 : decode cX8_looksAt 15 = .ok (.iload 4, 2) := by decide +kernel
theorem dX8_looksAt_17 : decode cX8_looksAt 17 = .ok (.iload_n 2, 1) := by decide +kernel
theorem dX8_looksAt_18 : decode cX8_looksAt 18 = .ok (.invokevirtual 237, 3) := by decide +kernel
theorem dX8_looksAt_21 : decode cX8_looksAt 21 = .ok (.ifCond .eq 10, 3) := by decide +kernel
theorem dX8_looksAt_24 : decode cX8_looksAt 24 = .ok (.iconst 1, 1) := by decide +kernel
theorem dX8_looksAt_25 : decode cX8_looksAt 25 = .ok (.iload 4, 2) := by decide +kernel
theorem dX8_looksAt_27 : decode cX8_looksAt 27 = .ok (.ishl, 1) := by decide +kernel
theorem dX8_looksAt_28 : decode cX8_looksAt 28 = .ok (.goto 4, 3) := by decide +kernel
theorem dX8_looksAt_31 : decode cX8_looksAt 31 = .ok (.iconst 0, 1) := by decide +kernel
theorem dX8_looksAt_32 : decode cX8_looksAt 32 = .ok (.ior, 1) := by decide +kernel
theorem dX8_looksAt_33 : decode cX8_looksAt 33 = .ok (.istore_n 3, 1) := by decide +kernel
theorem dX8_looksAt_34 : decode cX8_looksAt 34 = .ok (.iinc 4 1, 3) := by decide +kernel
theorem dX8_looksAt_37 : decode cX8_looksAt 37 = .ok (.goto (-32), 3) := by decide +kernel
theorem dX8_looksAt_40 : decode cX8_looksAt 40 = .ok (.aload_n 0, 1) := by decide +kernel
theorem dX8_looksAt_41 : decode cX8_looksAt 41 = .ok (.getfield 42, 3) := by decide +kernel
theorem dX8_looksAt_44 : decode cX8_looksAt 44 = .ok (.iload_n 1, 1) := by decide +kernel
theorem dX8_looksAt_45 : decode cX8_looksAt 45 = .ok (.iload_n 2, 1) := by decide +kernel
theorem dX8_looksAt_46 : decode cX8_looksAt 46 = .ok (.invokestatic 224, 3) := by decide +kernel
theorem dX8_looksAt_49 : decode cX8_looksAt 49 = .ok (.iload_n 3, 1) := by decide +kernel
theorem dX8_looksAt_50 : decode cX8_looksAt 50 = .ok (.iastore, 1) := by decide +kernel
theorem dX8_looksAt_51 : decode cX8_looksAt 51 = .ok (.iconst 0, 1) := by decide +kernel
theorem dX8_looksAt_52 : decode cX8_looksAt 52 = .ok (.istore 4, 2) := by decide +kernel
theorem dX8_looksAt_54 : decode cX8_looksAt 54 = .ok (.iload_n 2, 1) := by decide +kernel
theorem dX8_looksAt_55 : decode cX8_looksAt 55 = .ok (.istore 5, 2) := by decide +kernel
theorem dX8_looksAt_57 : decode cX8_looksAt 57 = .ok (.iload 5, 2) := by decide +kernel
theorem dX8_looksAt_59 : decode cX8_looksAt 59 = .ok (.ifCond .lt 38, 3) := by decide +kernel
theorem dX8_looksAt_62 : decode cX8_looksAt 62 = .ok (.iload 5, 2) := by decide +kernel
theorem dX8_looksAt_64 : decode cX8_looksAt 64 = .ok (.iload_n 2, 1) := by decide +kernel
theorem dX8_looksAt_65 : decode cX8_looksAt 65 = .ok (.aload_n 0, 1) := by decide +kernel
theorem dX8_looksAt_66 : decode cX8_looksAt 66 = .ok (.getfield 17, 3) := by decide +kernel
theorem dX8_looksAt_69 : decode cX8_looksAt 69 = .ok (.iconst 1, 1) := by decide +kernel
theorem dX8_looksAt_70 : decode cX8_looksAt 70 = .ok (.iaload, 1) := by decide +kernel
theorem dX8_looksAt_71 : decode cX8_looksAt 71 = .ok (.isub, 1) := by decide +kernel
theorem dX8_looksAt_72 : decode cX8_looksAt 72 = .ok (.if_icmp .lt 25, 3) := by decide +kernel
theorem dX8_looksAt_75 : decode cX8_looksAt 75 = .ok (.iload 4, 2) := by decide +kernel
theorem dX8_looksAt_77 : decode cX8_looksAt 77 = .ok (.aload_n 0, 1) := by decide +kernel
theorem dX8_looksAt_78 : decode cX8_looksAt 78 = .ok (.getfield 42, 3) := by decide +kernel
theorem dX8_looksAt_81 : decode cX8_looksAt 81 = .ok (.iload_n 1, 1) := by decide +kernel
theorem dX8_looksAt_82 : decode cX8_looksAt 82 = .ok (.iload 5, 2) := by decide +kernel
theorem dX8_looksAt_84 : decode cX8_looksAt 84 = .ok (.invokestatic 224, 3) := by decide +kernel
theorem dX8_looksAt_87 : decode cX8_looksAt 87 = .ok (.iaload, 1) := by decide +kernel
theorem dX8_looksAt_88 : decode cX8_looksAt 88 = .ok (.ior, 1) := by decide +kernel
theorem dX8_looksAt_89 : decode cX8_looksAt 89 = .ok (.istore 4, 2) := by decide +kernel
theorem dX8_looksAt_91 : decode cX8_looksAt 91 = .ok (.iinc 5 (-1), 3) := by decide +kernel
theorem dX8_looksAt_94 : decode cX8_looksAt 94 = .ok (.goto (-37), 3) := by decide +kernel
theorem dX8_looksAt_97 : decode cX8_looksAt 97 = .ok (.aload_n 0, 1) := by decide +kernel
theorem dX8_looksAt_98 : decode cX8_looksAt 98 = .ok (.getfield 45, 3) := by decide +kernel
theorem dX8_looksAt_101 : decode cX8_looksAt 101 = .ok (.iload_n 1, 1) := by decide +kernel
theorem dX8_looksAt_102 : decode cX8_looksAt 102 = .ok (.iload_n 2, 1) := by decide +kernel
theorem dX8_looksAt_103 : decode cX8_looksAt 103 = .ok (.invokestatic 224, 3) := by decide +kernel
theorem dX8_looksAt_106 : decode cX8_looksAt 106 = .ok (.iload 4, 2) := by decide +kernel
theorem dX8_looksAt_108 : decode cX8_looksAt 108 = .ok (.iastore, 1) := by decide +kernel
theorem dX8_looksAt_109 : decode cX8_looksAt 109 = .ok (.bipush (-2), 2) := by decide +kernel
theorem dX8_looksAt_111 : decode cX8_looksAt 111 = .ok (.istore 5, 2) := by decide +kernel
theorem dX8_looksAt_113 : decode cX8_looksAt 113 = .ok (.iconst 0, 1) := by decide +kernel
theorem dX8_looksAt_114 : decode cX8_looksAt 114 = .ok (.istore 6, 2) := by decide +kernel
theorem dX8_looksAt_116 : decode cX8_looksAt 116 = .ok (.iload 6, 2) := by decide +kernel
theorem dX8_looksAt_118 : decode cX8_looksAt 118 = .ok (.bipush 6, 2) := by decide +kernel
theorem dX8_looksAt_120 : decode cX8_looksAt 120 = .ok (.if_icmp .ge 53, 3) := by decide +kernel
theorem dX8_looksAt_123 : decode cX8_looksAt 123 = .ok (.aload_n 0, 1) := by decide +kernel
theorem dX8_looksAt_124 : decode cX8_looksAt 124 = .ok (.getfield 218, 3) := by decide +kernel
theorem dX8_looksAt_127 : decode cX8_looksAt 127 = .ok (.iload_n 1, 1) := by decide +kernel
theorem dX8_looksAt_128 : decode cX8_looksAt 128 = .ok (.invokestatic 221, 3) := by decide +kernel
theorem dX8_looksAt_131 : decode cX8_looksAt 131 = .ok (.ifCond .eq 42, 3) := by decide +kernel
theorem dX8_looksAt_134 : decode cX8_looksAt 134 = .ok (.iload 4, 2) := by decide +kernel
theorem dX8_looksAt_136 : decode cX8_looksAt 136 = .ok (.iload 6, 2) := by decide +kernel
theorem dX8_looksAt_138 : decode cX8_looksAt 138 = .ok (.invokestatic 221, 3) := by decide +kernel
theorem dX8_looksAt_141 : decode cX8_looksAt 141 = .ok (.ifCond .eq 22, 3) := by decide +kernel
theorem dX8_looksAt_144 : decode cX8_looksAt 144 = .ok (.aload_n 0, 1) := by decide +kernel
theorem dX8_looksAt_145 : decode cX8_looksAt 145 = .ok (.getfield 36, 3) := by decide +kernel
theorem dX8_looksAt_148 : decode cX8_looksAt 148 = .ok (.iload_n 1, 1) := by decide +kernel
theorem dX8_looksAt_149 : decode cX8_looksAt 149 = .ok (.iaload, 1) := by decide +kernel
theorem dX8_looksAt_150 : decode cX8_looksAt 150 = .ok (.iload 6, 2) := by decide +kernel
theorem dX8_looksAt_152 : decode cX8_looksAt 152 = .ok (.invokestatic 221, 3) := by decide +kernel
theorem dX8_looksAt_155 : decode cX8_looksAt 155 = .ok (.ifCond .ne 8, 3) := by decide +kernel
theorem dX8_looksAt_158 : decode cX8_looksAt 158 = .ok (.iload 6, 2) := by decide +kernel
theorem dX8_looksAt_160 : decode cX8_looksAt 160 = .ok (.goto 5, 3) := by decide +kernel
theorem dX8_looksAt_163 : decode cX8_looksAt 163 = .ok (.iload 5, 2) := by decide +kernel
theorem dX8_looksAt_165 : decode cX8_looksAt 165 = .ok (.istore 5, 2) := by decide +kernel
theorem dX8_looksAt_167 : decode cX8_looksAt 167 = .ok (.iinc 6 1, 3) := by decide +kernel
theorem dX8_looksAt_170 : decode cX8_looksAt 170 = .ok (.goto (-54), 3) := by decide +kernel
theorem dX8_looksAt_173 : decode cX8_looksAt 173 = .ok (.aload_n 0, 1) := by decide +kernel
theorem dX8_looksAt_174 : decode cX8_looksAt 174 = .ok (.getfield 48, 3) := by decide +kernel
theorem dX8_looksAt_177 : decode cX8_looksAt 177 = .ok (.iload_n 1, 1) := by decide +kernel
theorem dX8_looksAt_178 : decode cX8_looksAt 178 = .ok (.iload_n 2, 1) := by decide +kernel
theorem dX8_looksAt_179 : decode cX8_looksAt 179 = .ok (.invokestatic 224, 3) := by decide +kernel
theorem dX8_looksAt_182 : decode cX8_looksAt 182 = .ok (.iload 5, 2) := by decide +kernel
theorem dX8_looksAt_184 : decode cX8_looksAt 184 = .ok (.iastore, 1) := by decide +kernel
theorem dX8_looksAt_185 : decode cX8_looksAt 185 = .ok (.return_, 1) := by decide +kernel
theorem dX8_laysPass_0 : decode cX8_laysPass 0 = .ok (.aload_n 0, 1) := by decide +kernel
theorem dX8_laysPass_1 : decode cX8_laysPass 1 = .ok (.iload_n 1, 1) := by decide +kernel
theorem dX8_laysPass_2 : decode cX8_laysPass 2 = .ok (.putfield 218, 3) := by decide +kernel
theorem dX8_laysPass_5 : decode cX8_laysPass 5 = .ok (.aload_n 0, 1) := by decide +kernel
theorem dX8_laysPass_6 : decode cX8_laysPass 6 = .ok (.iconst 0, 1) := by decide +kernel
theorem dX8_laysPass_7 : decode cX8_laysPass 7 = .ok (.putfield 234, 3) := by decide +kernel
theorem dX8_laysPass_10 : decode cX8_laysPass 10 = .ok (.iconst 0, 1) := by decide +kernel
theorem dX8_laysPass_11 : decode cX8_laysPass 11 = .ok (.istore_n 2, 1) := by decide +kernel
theorem dX8_laysPass_12 : decode cX8_laysPass 12 = .ok (.iload_n 2, 1) := by decide +kernel
theorem dX8_laysPass_13 : decode cX8_laysPass 13 = .ok (.sipush 2766, 3) := by decide +kernel
theorem dX8_laysPass_16 : decode cX8_laysPass 16 = .ok (.if_icmp .ge 16, 3) := by decide +kernel
theorem dX8_laysPass_19 : decode cX8_laysPass 19 = .ok (.aload_n 0, 1) := by decide +kernel
theorem dX8_laysPass_20 : decode cX8_laysPass 20 = .ok (.getfield 51, 3) := by decide +kernel
theorem dX8_laysPass_23 : decode cX8_laysPass 23 = .ok (.iload_n 2, 1) := by decide +kernel
theorem dX8_laysPass_24 : decode cX8_laysPass 24 = .ok (.iconst 0, 1) := by decide +kernel
theorem dX8_laysPass_25 : decode cX8_laysPass 25 = .ok (.iastore, 1) := by decide +kernel
theorem dX8_laysPass_26 : decode cX8_laysPass 26 = .ok (.iinc 2 1, 3) := by decide +kernel
theorem dX8_laysPass_29 : decode cX8_laysPass 29 = .ok (.goto (-17), 3) := by decide +kernel
theorem dX8_laysPass_32 : decode cX8_laysPass 32 = .ok (.iconst 0, 1) := by decide +kernel
theorem dX8_laysPass_33 : decode cX8_laysPass 33 = .ok (.istore_n 2, 1) := by decide +kernel
theorem dX8_laysPass_34 : decode cX8_laysPass 34 = .ok (.iload_n 2, 1) := by decide +kernel
theorem dX8_laysPass_35 : decode cX8_laysPass 35 = .ok (.sipush 401, 3) := by decide +kernel
theorem dX8_laysPass_38 : decode cX8_laysPass 38 = .ok (.if_icmp .ge 81, 3) := by decide +kernel
theorem dX8_laysPass_41 : decode cX8_laysPass 41 = .ok (.iconst 0, 1) := by decide +kernel
theorem dX8_laysPass_42 : decode cX8_laysPass 42 = .ok (.istore_n 3, 1) := by decide +kernel
theorem dX8_laysPass_43 : decode cX8_laysPass 43 = .ok (.iload_n 3, 1) := by decide +kernel
theorem dX8_laysPass_44 : decode cX8_laysPass 44 = .ok (.aload_n 0, 1) := by decide +kernel
theorem dX8_laysPass_45 : decode cX8_laysPass 45 = .ok (.getfield 17, 3) := by decide +kernel
theorem dX8_laysPass_48 : decode cX8_laysPass 48 = .ok (.iconst 3, 1) := by decide +kernel
theorem dX8_laysPass_49 : decode cX8_laysPass 49 = .ok (.iaload, 1) := by decide +kernel
theorem dX8_laysPass_50 : decode cX8_laysPass 50 = .ok (.if_icmp .ge 15, 3) := by decide +kernel
theorem dX8_laysPass_53 : decode cX8_laysPass 53 = .ok (.aload_n 0, 1) := by decide +kernel
theorem dX8_laysPass_54 : decode cX8_laysPass 54 = .ok (.iload_n 3, 1) := by decide +kernel
theorem dX8_laysPass_55 : decode cX8_laysPass 55 = .ok (.iload_n 2, 1) := by decide +kernel
theorem dX8_laysPass_56 : decode cX8_laysPass 56 = .ok (.invokevirtual 240, 3) := by decide +kernel
theorem dX8_laysPass_59 : decode cX8_laysPass 59 = .ok (.iinc 3 1, 3) := by decide +kernel
theorem dX8_laysPass_62 : decode cX8_laysPass 62 = .ok (.goto (-19), 3) := by decide +kernel
theorem dX8_laysPass_65 : decode cX8_laysPass 65 = .ok (.iconst 0, 1) := by decide +kernel
theorem dX8_laysPass_66 : decode cX8_laysPass 66 = .ok (.istore_n 3, 1) := by decide +kernel
theorem dX8_laysPass_67 : decode cX8_laysPass 67 = .ok (.iload_n 3, 1) := by decide +kernel
theorem dX8_laysPass_68 : decode cX8_laysPass 68 = .ok (.aload_n 0, 1) := by decide +kernel
theorem dX8_laysPass_69 : decode cX8_laysPass 69 = .ok (.getfield 17, 3) := by decide +kernel
theorem dX8_laysPass_72 : decode cX8_laysPass 72 = .ok (.iconst 3, 1) := by decide +kernel
theorem dX8_laysPass_73 : decode cX8_laysPass 73 = .ok (.iaload, 1) := by decide +kernel
theorem dX8_laysPass_74 : decode cX8_laysPass 74 = .ok (.if_icmp .ge 15, 3) := by decide +kernel
theorem dX8_laysPass_77 : decode cX8_laysPass 77 = .ok (.aload_n 0, 1) := by decide +kernel
theorem dX8_laysPass_78 : decode cX8_laysPass 78 = .ok (.iload_n 3, 1) := by decide +kernel
theorem dX8_laysPass_79 : decode cX8_laysPass 79 = .ok (.iload_n 2, 1) := by decide +kernel
theorem dX8_laysPass_80 : decode cX8_laysPass 80 = .ok (.invokevirtual 244, 3) := by decide +kernel
theorem dX8_laysPass_83 : decode cX8_laysPass 83 = .ok (.iinc 3 1, 3) := by decide +kernel
theorem dX8_laysPass_86 : decode cX8_laysPass 86 = .ok (.goto (-19), 3) := by decide +kernel
theorem dX8_laysPass_89 : decode cX8_laysPass 89 = .ok (.iconst 0, 1) := by decide +kernel
theorem dX8_laysPass_90 : decode cX8_laysPass 90 = .ok (.istore_n 3, 1) := by decide +kernel
theorem dX8_laysPass_91 : decode cX8_laysPass 91 = .ok (.iload_n 3, 1) := by decide +kernel
theorem dX8_laysPass_92 : decode cX8_laysPass 92 = .ok (.aload_n 0, 1) := by decide +kernel
theorem dX8_laysPass_93 : decode cX8_laysPass 93 = .ok (.getfield 17, 3) := by decide +kernel
theorem dX8_laysPass_96 : decode cX8_laysPass 96 = .ok (.iconst 3, 1) := by decide +kernel
theorem dX8_laysPass_97 : decode cX8_laysPass 97 = .ok (.iaload, 1) := by decide +kernel
theorem dX8_laysPass_98 : decode cX8_laysPass 98 = .ok (.if_icmp .ge 15, 3) := by decide +kernel
theorem dX8_laysPass_101 : decode cX8_laysPass 101 = .ok (.aload_n 0, 1) := by decide +kernel
theorem dX8_laysPass_102 : decode cX8_laysPass 102 = .ok (.iload_n 3, 1) := by decide +kernel
theorem dX8_laysPass_103 : decode cX8_laysPass 103 = .ok (.iload_n 2, 1) := by decide +kernel
theorem dX8_laysPass_104 : decode cX8_laysPass 104 = .ok (.invokevirtual 247, 3) := by decide +kernel
theorem dX8_laysPass_107 : decode cX8_laysPass 107 = .ok (.iinc 3 1, 3) := by decide +kernel
theorem dX8_laysPass_110 : decode cX8_laysPass 110 = .ok (.goto (-19), 3) := by decide +kernel
theorem dX8_laysPass_113 : decode cX8_laysPass 113 = .ok (.iinc 2 1, 3) := by decide +kernel
theorem dX8_laysPass_116 : decode cX8_laysPass 116 = .ok (.goto (-82), 3) := by decide +kernel
theorem dX8_laysPass_119 : decode cX8_laysPass 119 = .ok (.return_, 1) := by decide +kernel
theorem dX8_passes_0 : decode cX8_passes 0 = .ok (.iconst 0, 1) := by decide +kernel
theorem dX8_passes_1 : decode cX8_passes 1 = .ok (.istore_n 3, 1) := by decide +kernel
theorem dX8_passes_2 : decode cX8_passes 2 = .ok (.iload_n 3, 1) := by decide +kernel
theorem dX8_passes_3 : decode cX8_passes 3 = .ok (.aload_n 0, 1) := by decide +kernel
theorem dX8_passes_4 : decode cX8_passes 4 = .ok (.getfield 17, 3) := by decide +kernel
theorem dX8_passes_7 : decode cX8_passes 7 = .ok (.iconst 3, 1) := by decide +kernel
theorem dX8_passes_8 : decode cX8_passes 8 = .ok (.iaload, 1) := by decide +kernel
theorem dX8_passes_9 : decode cX8_passes 9 = .ok (.if_icmp .ge 21, 3) := by decide +kernel
theorem dX8_passes_12 : decode cX8_passes 12 = .ok (.aload_n 0, 1) := by decide +kernel
theorem dX8_passes_13 : decode cX8_passes 13 = .ok (.getfield 36, 3) := by decide +kernel
theorem dX8_passes_16 : decode cX8_passes 16 = .ok (.iload_n 3, 1) := by decide +kernel
theorem dX8_passes_17 : decode cX8_passes 17 = .ok (.aload_n 0, 1) := by decide +kernel
theorem dX8_passes_18 : decode cX8_passes 18 = .ok (.iload_n 3, 1) := by decide +kernel
theorem dX8_passes_19 : decode cX8_passes 19 = .ok (.iload_n 1, 1) := by decide +kernel
theorem dX8_passes_20 : decode cX8_passes 20 = .ok (.invokevirtual 250, 3) := by decide +kernel
theorem dX8_passes_23 : decode cX8_passes 23 = .ok (.iastore, 1) := by decide +kernel
theorem dX8_passes_24 : decode cX8_passes 24 = .ok (.iinc 3 1, 3) := by decide +kernel
theorem dX8_passes_27 : decode cX8_passes 27 = .ok (.goto (-25), 3) := by decide +kernel
theorem dX8_passes_30 : decode cX8_passes 30 = .ok (.aload_n 0, 1) := by decide +kernel
theorem dX8_passes_31 : decode cX8_passes 31 = .ok (.iload_n 2, 1) := by decide +kernel
theorem dX8_passes_32 : decode cX8_passes 32 = .ok (.invokevirtual 253, 3) := by decide +kernel
theorem dX8_passes_35 : decode cX8_passes 35 = .ok (.return_, 1) := by decide +kernel
theorem dX8_winnersAt_0 : decode cX8_winnersAt 0 = .ok (.iconst 0, 1) := by decide +kernel
theorem dX8_winnersAt_1 : decode cX8_winnersAt 1 = .ok (.istore_n 2, 1) := by decide +kernel
theorem dX8_winnersAt_2 : decode cX8_winnersAt 2 = .ok (.iconst 0, 1) := by decide +kernel
theorem dX8_winnersAt_3 : decode cX8_winnersAt 3 = .ok (.istore_n 3, 1) := by decide +kernel
theorem dX8_winnersAt_4 : decode cX8_winnersAt 4 = .ok (.iload_n 3, 1) := by decide +kernel
theorem dX8_winnersAt_5 : decode cX8_winnersAt 5 = .ok (.aload_n 0, 1) := by decide +kernel
theorem dX8_winnersAt_6 : decode cX8_winnersAt 6 = .ok (.getfield 17, 3) := by decide +kernel
theorem dX8_winnersAt_9 : decode cX8_winnersAt 9 = .ok (.iconst 3, 1) := by decide +kernel
theorem dX8_winnersAt_10 : decode cX8_winnersAt 10 = .ok (.iaload, 1) := by decide +kernel
theorem dX8_winnersAt_11 : decode cX8_winnersAt 11 = .ok (.if_icmp .ge 45, 3) := by decide +kernel
theorem dX8_winnersAt_14 : decode cX8_winnersAt 14 = .ok (.iload_n 2, 1) := by decide +kernel
theorem dX8_winnersAt_15 : decode cX8_winnersAt 15 = .ok (.aload_n 0, 1) := by decide +kernel
theorem dX8_winnersAt_16 : decode cX8_winnersAt 16 = .ok (.getfield 218, 3) := by decide +kernel
theorem dX8_winnersAt_19 : decode cX8_winnersAt 19 = .ok (.iload_n 3, 1) := by decide +kernel
theorem dX8_winnersAt_20 : decode cX8_winnersAt 20 = .ok (.invokestatic 221, 3) := by decide +kernel
theorem dX8_winnersAt_23 : decode cX8_winnersAt 23 = .ok (.ifCond .eq 24, 3) := by decide +kernel
theorem dX8_winnersAt_26 : decode cX8_winnersAt 26 = .ok (.aload_n 0, 1) := by decide +kernel
theorem dX8_winnersAt_27 : decode cX8_winnersAt 27 = .ok (.getfield 48, 3) := by decide +kernel
theorem dX8_winnersAt_30 : decode cX8_winnersAt 30 = .ok (.iload_n 3, 1) := by decide +kernel
theorem dX8_winnersAt_31 : decode cX8_winnersAt 31 = .ok (.iload_n 1, 1) := by decide +kernel
theorem dX8_winnersAt_32 : decode cX8_winnersAt 32 = .ok (.invokestatic 224, 3) := by decide +kernel
theorem dX8_winnersAt_35 : decode cX8_winnersAt 35 = .ok (.iaload, 1) := by decide +kernel
theorem dX8_winnersAt_36 : decode cX8_winnersAt 36 = .ok (.bipush (-2), 2) := by decide +kernel
theorem dX8_winnersAt_38 : decode cX8_winnersAt 38 = .ok (.if_icmp .ne 9, 3) := by decide +kernel
theorem dX8_winnersAt_41 : decode cX8_winnersAt 41 = .ok (.iconst 1, 1) := by decide +kernel
theorem dX8_winnersAt_42 : decode cX8_winnersAt 42 = .ok (.iload_n 3, 1) := by decide +kernel
theorem dX8_winnersAt_43 : decode cX8_winnersAt 43 = .ok (.ishl, 1) := by decide +kernel
theorem dX8_winnersAt_44 : decode cX8_winnersAt 44 = .ok (.goto 4, 3) := by decide +kernel
theorem dX8_winnersAt_47 : decode cX8_winnersAt 47 = .ok (.iconst 0, 1) := by decide +kernel
theorem dX8_winnersAt_48 : decode cX8_winnersAt 48 = .ok (.ior, 1) := by decide +kernel
theorem dX8_winnersAt_49 : decode cX8_winnersAt 49 = .ok (.istore_n 2, 1) := by decide +kernel
theorem dX8_winnersAt_50 : decode cX8_winnersAt 50 = .ok (.iinc 3 1, 3) := by decide +kernel
theorem dX8_winnersAt_53 : decode cX8_winnersAt 53 = .ok (.goto (-49), 3) := by decide +kernel
theorem dX8_winnersAt_56 : decode cX8_winnersAt 56 = .ok (.iload_n 2, 1) := by decide +kernel
theorem dX8_winnersAt_57 : decode cX8_winnersAt 57 = .ok (.ireturn, 1) := by decide +kernel
theorem dX8_rightOnes_0 : decode cX8_rightOnes 0 = .ok (.iconst (-1), 1) := by decide +kernel
theorem dX8_rightOnes_1 : decode cX8_rightOnes 1 = .ok (.istore_n 1, 1) := by decide +kernel
theorem dX8_rightOnes_2 : decode cX8_rightOnes 2 = .ok (.iconst 0, 1) := by decide +kernel
theorem dX8_rightOnes_3 : decode cX8_rightOnes 3 = .ok (.istore_n 2, 1) := by decide +kernel
theorem dX8_rightOnes_4 : decode cX8_rightOnes 4 = .ok (.iconst 0, 1) := by decide +kernel
theorem dX8_rightOnes_5 : decode cX8_rightOnes 5 = .ok (.istore_n 3, 1) := by decide +kernel
theorem dX8_rightOnes_6 : decode cX8_rightOnes 6 = .ok (.iload_n 3, 1) := by decide +kernel
theorem dX8_rightOnes_7 : decode cX8_rightOnes 7 = .ok (.aload_n 0, 1) := by decide +kernel
theorem dX8_rightOnes_8 : decode cX8_rightOnes 8 = .ok (.getfield 17, 3) := by decide +kernel
theorem dX8_rightOnes_11 : decode cX8_rightOnes 11 = .ok (.iconst 3, 1) := by decide +kernel
theorem dX8_rightOnes_12 : decode cX8_rightOnes 12 = .ok (.iaload, 1) := by decide +kernel
theorem dX8_rightOnes_13 : decode cX8_rightOnes 13 = .ok (.if_icmp .ge 59, 3) := by decide +kernel
theorem dX8_rightOnes_16 : decode cX8_rightOnes 16 = .ok (.aload_n 0, 1) := by decide +kernel
theorem dX8_rightOnes_17 : decode cX8_rightOnes 17 = .ok (.getfield 218, 3) := by decide +kernel
theorem dX8_rightOnes_20 : decode cX8_rightOnes 20 = .ok (.iload_n 3, 1) := by decide +kernel
theorem dX8_rightOnes_21 : decode cX8_rightOnes 21 = .ok (.invokestatic 221, 3) := by decide +kernel
theorem dX8_rightOnes_24 : decode cX8_rightOnes 24 = .ok (.ifCond .eq 42, 3) := by decide +kernel
theorem dX8_rightOnes_27 : decode cX8_rightOnes 27 = .ok (.aload_n 0, 1) := by decide +kernel
theorem dX8_rightOnes_28 : decode cX8_rightOnes 28 = .ok (.getfield 36, 3) := by decide +kernel
theorem dX8_rightOnes_31 : decode cX8_rightOnes 31 = .ok (.iload_n 3, 1) := by decide +kernel
theorem dX8_rightOnes_32 : decode cX8_rightOnes 32 = .ok (.iaload, 1) := by decide +kernel
theorem dX8_rightOnes_33 : decode cX8_rightOnes 33 = .ok (.iload_n 1, 1) := by decide +kernel
theorem dX8_rightOnes_34 : decode cX8_rightOnes 34 = .ok (.if_icmp .lt 32, 3) := by decide +kernel
theorem dX8_rightOnes_37 : decode cX8_rightOnes 37 = .ok (.aload_n 0, 1) := by decide +kernel
theorem dX8_rightOnes_38 : decode cX8_rightOnes 38 = .ok (.getfield 36, 3) := by decide +kernel
theorem dX8_rightOnes_41 : decode cX8_rightOnes 41 = .ok (.iload_n 3, 1) := by decide +kernel
theorem dX8_rightOnes_42 : decode cX8_rightOnes 42 = .ok (.iaload, 1) := by decide +kernel
theorem dX8_rightOnes_43 : decode cX8_rightOnes 43 = .ok (.iload_n 1, 1) := by decide +kernel
theorem dX8_rightOnes_44 : decode cX8_rightOnes 44 = .ok (.if_icmp .le 9, 3) := by decide +kernel
theorem dX8_rightOnes_47 : decode cX8_rightOnes 47 = .ok (.iconst 1, 1) := by decide +kernel
theorem dX8_rightOnes_48 : decode cX8_rightOnes 48 = .ok (.iload_n 3, 1) := by decide +kernel
theorem dX8_rightOnes_49 : decode cX8_rightOnes 49 = .ok (.ishl, 1) := by decide +kernel
theorem dX8_rightOnes_50 : decode cX8_rightOnes 50 = .ok (.goto 8, 3) := by decide +kernel
theorem dX8_rightOnes_53 : decode cX8_rightOnes 53 = .ok (.iload_n 2, 1) := by decide +kernel
theorem dX8_rightOnes_54 : decode cX8_rightOnes 54 = .ok (.iconst 1, 1) := by decide +kernel
theorem dX8_rightOnes_55 : decode cX8_rightOnes 55 = .ok (.iload_n 3, 1) := by decide +kernel
theorem dX8_rightOnes_56 : decode cX8_rightOnes 56 = .ok (.ishl, 1) := by decide +kernel
theorem dX8_rightOnes_57 : decode cX8_rightOnes 57 = .ok (.ior, 1) := by decide +kernel
theorem dX8_rightOnes_58 : decode cX8_rightOnes 58 = .ok (.istore_n 2, 1) := by decide +kernel
theorem dX8_rightOnes_59 : decode cX8_rightOnes 59 = .ok (.aload_n 0, 1) := by decide +kernel
theorem dX8_rightOnes_60 : decode cX8_rightOnes 60 = .ok (.getfield 36, 3) := by decide +kernel
theorem dX8_rightOnes_63 : decode cX8_rightOnes 63 = .ok (.iload_n 3, 1) := by decide +kernel
theorem dX8_rightOnes_64 : decode cX8_rightOnes 64 = .ok (.iaload, 1) := by decide +kernel
theorem dX8_rightOnes_65 : decode cX8_rightOnes 65 = .ok (.istore_n 1, 1) := by decide +kernel
theorem dX8_rightOnes_66 : decode cX8_rightOnes 66 = .ok (.iinc 3 1, 3) := by decide +kernel
theorem dX8_rightOnes_69 : decode cX8_rightOnes 69 = .ok (.goto (-63), 3) := by decide +kernel
theorem dX8_rightOnes_72 : decode cX8_rightOnes 72 = .ok (.iload_n 2, 1) := by decide +kernel
theorem dX8_rightOnes_73 : decode cX8_rightOnes 73 = .ok (.ireturn, 1) := by decide +kernel
theorem dX8_areSettled_0 : decode cX8_areSettled 0 = .ok (.iconst 0, 1) := by decide +kernel
theorem dX8_areSettled_1 : decode cX8_areSettled 1 = .ok (.istore_n 2, 1) := by decide +kernel
theorem dX8_areSettled_2 : decode cX8_areSettled 2 = .ok (.iload_n 2, 1) := by decide +kernel
theorem dX8_areSettled_3 : decode cX8_areSettled 3 = .ok (.aload_n 0, 1) := by decide +kernel
theorem dX8_areSettled_4 : decode cX8_areSettled 4 = .ok (.getfield 17, 3) := by decide +kernel
theorem dX8_areSettled_7 : decode cX8_areSettled 7 = .ok (.iconst 3, 1) := by decide +kernel
theorem dX8_areSettled_8 : decode cX8_areSettled 8 = .ok (.iaload, 1) := by decide +kernel
theorem dX8_areSettled_9 : decode cX8_areSettled 9 = .ok (.if_icmp .ge 36, 3) := by decide +kernel
theorem dX8_areSettled_12 : decode cX8_areSettled 12 = .ok (.aload_n 0, 1) := by decide +kernel
theorem dX8_areSettled_13 : decode cX8_areSettled 13 = .ok (.getfield 39, 3) := by decide +kernel
theorem dX8_areSettled_16 : decode cX8_areSettled 16 = .ok (.iload_n 2, 1) := by decide +kernel
theorem dX8_areSettled_17 : decode cX8_areSettled 17 = .ok (.iload_n 1, 1) := by decide +kernel
theorem dX8_areSettled_18 : decode cX8_areSettled 18 = .ok (.invokestatic 224, 3) := by decide +kernel
theorem dX8_areSettled_21 : decode cX8_areSettled 21 = .ok (.iaload, 1) := by decide +kernel
theorem dX8_areSettled_22 : decode cX8_areSettled 22 = .ok (.aload_n 0, 1) := by decide +kernel
theorem dX8_areSettled_23 : decode cX8_areSettled 23 = .ok (.getfield 39, 3) := by decide +kernel
theorem dX8_areSettled_26 : decode cX8_areSettled 26 = .ok (.iload_n 2, 1) := by decide +kernel
theorem dX8_areSettled_27 : decode cX8_areSettled 27 = .ok (.sipush 400, 3) := by decide +kernel
theorem dX8_areSettled_30 : decode cX8_areSettled 30 = .ok (.invokestatic 224, 3) := by decide +kernel
theorem dX8_areSettled_33 : decode cX8_areSettled 33 = .ok (.iaload, 1) := by decide +kernel
theorem dX8_areSettled_34 : decode cX8_areSettled 34 = .ok (.if_icmp .eq 5, 3) := by decide +kernel
theorem dX8_areSettled_37 : decode cX8_areSettled 37 = .ok (.iconst 0, 1) := by decide +kernel
theorem dX8_areSettled_38 : decode cX8_areSettled 38 = .ok (.ireturn, 1) := by decide +kernel
theorem dX8_areSettled_39 : decode cX8_areSettled 39 = .ok (.iinc 2 1, 3) := by decide +kernel
theorem dX8_areSettled_42 : decode cX8_areSettled 42 = .ok (.goto (-40), 3) := by decide +kernel
theorem dX8_areSettled_45 : decode cX8_areSettled 45 = .ok (.iconst 1, 1) := by decide +kernel
theorem dX8_areSettled_46 : decode cX8_areSettled 46 = .ok (.ireturn, 1) := by decide +kernel
theorem dX8_settledAt_0 : decode cX8_settledAt 0 = .ok (.sipush 400, 3) := by decide +kernel
theorem dX8_settledAt_3 : decode cX8_settledAt 3 = .ok (.istore_n 1, 1) := by decide +kernel
theorem dX8_settledAt_4 : decode cX8_settledAt 4 = .ok (.iload_n 1, 1) := by decide +kernel
theorem dX8_settledAt_5 : decode cX8_settledAt 5 = .ok (.ifCond .le 19, 3) := by decide +kernel
theorem dX8_settledAt_8 : decode cX8_settledAt 8 = .ok (.aload_n 0, 1) := by decide +kernel
theorem dX8_settledAt_9 : decode cX8_settledAt 9 = .ok (.iload_n 1, 1) := by decide +kernel
theorem dX8_settledAt_10 : decode cX8_settledAt 10 = .ok (.iconst 1, 1) := by decide +kernel
theorem dX8_settledAt_11 : decode cX8_settledAt 11 = .ok (.isub, 1) := by decide +kernel
theorem dX8_settledAt_12 : decode cX8_settledAt 12 = .ok (.invokevirtual 256, 3) := by decide +kernel
theorem dX8_settledAt_15 : decode cX8_settledAt 15 = .ok (.ifCond .eq 9, 3) := by decide +kernel
theorem dX8_settledAt_18 : decode cX8_settledAt 18 = .ok (.iinc 1 (-1), 3) := by decide +kernel
theorem dX8_settledAt_21 : decode cX8_settledAt 21 = .ok (.goto (-17), 3) := by decide +kernel
theorem dX8_settledAt_24 : decode cX8_settledAt 24 = .ok (.iload_n 1, 1) := by decide +kernel
theorem dX8_settledAt_25 : decode cX8_settledAt 25 = .ok (.ireturn, 1) := by decide +kernel
theorem dX8_sureAt_0 : decode cX8_sureAt 0 = .ok (.aload_n 0, 1) := by decide +kernel
theorem dX8_sureAt_1 : decode cX8_sureAt 1 = .ok (.invokevirtual 259, 3) := by decide +kernel
theorem dX8_sureAt_4 : decode cX8_sureAt 4 = .ok (.istore_n 1, 1) := by decide +kernel
theorem dX8_sureAt_5 : decode cX8_sureAt 5 = .ok (.sipush 401, 3) := by decide +kernel
theorem dX8_sureAt_8 : decode cX8_sureAt 8 = .ok (.istore_n 2, 1) := by decide +kernel
theorem dX8_sureAt_9 : decode cX8_sureAt 9 = .ok (.iload_n 2, 1) := by decide +kernel
theorem dX8_sureAt_10 : decode cX8_sureAt 10 = .ok (.ifCond .le 20, 3) := by decide +kernel
theorem dX8_sureAt_13 : decode cX8_sureAt 13 = .ok (.aload_n 0, 1) := by decide +kernel
theorem dX8_sureAt_14 : decode cX8_sureAt 14 = .ok (.iload_n 2, 1) := by decide +kernel
theorem dX8_sureAt_15 : decode cX8_sureAt 15 = .ok (.iconst 1, 1) := by decide +kernel
theorem dX8_sureAt_16 : decode cX8_sureAt 16 = .ok (.isub, 1) := by decide +kernel
theorem dX8_sureAt_17 : decode cX8_sureAt 17 = .ok (.invokevirtual 262, 3) := by decide +kernel
theorem dX8_sureAt_20 : decode cX8_sureAt 20 = .ok (.iload_n 1, 1) := by decide +kernel
theorem dX8_sureAt_21 : decode cX8_sureAt 21 = .ok (.if_icmp .ne 9, 3) := by decide +kernel
theorem dX8_sureAt_24 : decode cX8_sureAt 24 = .ok (.iinc 2 (-1), 3) := by decide +kernel
theorem dX8_sureAt_27 : decode cX8_sureAt 27 = .ok (.goto (-18), 3) := by decide +kernel
theorem dX8_sureAt_30 : decode cX8_sureAt 30 = .ok (.iload_n 2, 1) := by decide +kernel
theorem dX8_sureAt_31 : decode cX8_sureAt 31 = .ok (.sipush 401, 3) := by decide +kernel
theorem dX8_sureAt_34 : decode cX8_sureAt 34 = .ok (.if_icmp .ne 8, 3) := by decide +kernel
theorem dX8_sureAt_37 : decode cX8_sureAt 37 = .ok (.bipush (-2), 2) := by decide +kernel
theorem dX8_sureAt_39 : decode cX8_sureAt 39 = .ok (.goto 4, 3) := by decide +kernel
theorem dX8_sureAt_42 : decode cX8_sureAt 42 = .ok (.iload_n 2, 1) := by decide +kernel
theorem dX8_sureAt_43 : decode cX8_sureAt 43 = .ok (.ireturn, 1) := by decide +kernel
theorem dX8_isFaultyAt_0 : decode cX8_isFaultyAt 0 = .ok (.iconst 0, 1) := by decide +kernel
theorem dX8_isFaultyAt_1 : decode cX8_isFaultyAt 1 = .ok (.istore_n 2, 1) := by decide +kernel
theorem dX8_isFaultyAt_2 : decode cX8_isFaultyAt 2 = .ok (.iload_n 2, 1) := by decide +kernel
theorem dX8_isFaultyAt_3 : decode cX8_isFaultyAt 3 = .ok (.aload_n 0, 1) := by decide +kernel
theorem dX8_isFaultyAt_4 : decode cX8_isFaultyAt 4 = .ok (.getfield 17, 3) := by decide +kernel
theorem dX8_isFaultyAt_7 : decode cX8_isFaultyAt 7 = .ok (.iconst 3, 1) := by decide +kernel
theorem dX8_isFaultyAt_8 : decode cX8_isFaultyAt 8 = .ok (.iaload, 1) := by decide +kernel
theorem dX8_isFaultyAt_9 : decode cX8_isFaultyAt 9 = .ok (.if_icmp .ge 29, 3) := by decide +kernel
theorem dX8_isFaultyAt_12 : decode cX8_isFaultyAt 12 = .ok (.aload_n 0, 1) := by decide +kernel
theorem dX8_isFaultyAt_13 : decode cX8_isFaultyAt 13 = .ok (.getfield 45, 3) := by decide +kernel
theorem dX8_isFaultyAt_16 : decode cX8_isFaultyAt 16 = .ok (.iload_n 2, 1) := by decide +kernel
theorem dX8_isFaultyAt_17 : decode cX8_isFaultyAt 17 = .ok (.iload_n 1, 1) := by decide +kernel
theorem dX8_isFaultyAt_18 : decode cX8_isFaultyAt 18 = .ok (.invokestatic 224, 3) := by decide +kernel
theorem dX8_isFaultyAt_21 : decode cX8_isFaultyAt 21 = .ok (.iaload, 1) := by decide +kernel
theorem dX8_isFaultyAt_22 : decode cX8_isFaultyAt 22 = .ok (.invokestatic 209, 3) := by decide +kernel
theorem dX8_isFaultyAt_25 : decode cX8_isFaultyAt 25 = .ok (.iconst 2, 1) := by decide +kernel
theorem dX8_isFaultyAt_26 : decode cX8_isFaultyAt 26 = .ok (.irem, 1) := by decide +kernel
theorem dX8_isFaultyAt_27 : decode cX8_isFaultyAt 27 = .ok (.ifCond .ne 5, 3) := by decide +kernel
theorem dX8_isFaultyAt_30 : decode cX8_isFaultyAt 30 = .ok (.iconst 1, 1) := by decide +kernel
theorem dX8_isFaultyAt_31 : decode cX8_isFaultyAt 31 = .ok (.ireturn, 1) := by decide +kernel
theorem dX8_isFaultyAt_32 : decode cX8_isFaultyAt 32 = .ok (.iinc 2 1, 3) := by decide +kernel
theorem dX8_isFaultyAt_35 : decode cX8_isFaultyAt 35 = .ok (.goto (-33), 3) := by decide +kernel
theorem dX8_isFaultyAt_38 : decode cX8_isFaultyAt 38 = .ok (.iconst 0, 1) := by decide +kernel
theorem dX8_isFaultyAt_39 : decode cX8_isFaultyAt 39 = .ok (.ireturn, 1) := by decide +kernel
theorem dX8_isSet_0 : decode cX8_isSet 0 = .ok (.iload_n 1, 1) := by decide +kernel
theorem dX8_isSet_1 : decode cX8_isSet 1 = .ok (.iconst 1, 1) := by decide +kernel
theorem dX8_isSet_2 : decode cX8_isSet 2 = .ok (.iconst 1, 1) := by decide +kernel
theorem dX8_isSet_3 : decode cX8_isSet 3 = .ok (.aload_n 0, 1) := by decide +kernel
theorem dX8_isSet_4 : decode cX8_isSet 4 = .ok (.getfield 17, 3) := by decide +kernel
theorem dX8_isSet_7 : decode cX8_isSet 7 = .ok (.iconst 3, 1) := by decide +kernel
theorem dX8_isSet_8 : decode cX8_isSet 8 = .ok (.iaload, 1) := by decide +kernel
theorem dX8_isSet_9 : decode cX8_isSet 9 = .ok (.ishl, 1) := by decide +kernel
theorem dX8_isSet_10 : decode cX8_isSet 10 = .ok (.iconst 1, 1) := by decide +kernel
theorem dX8_isSet_11 : decode cX8_isSet 11 = .ok (.isub, 1) := by decide +kernel
theorem dX8_isSet_12 : decode cX8_isSet 12 = .ok (.invokestatic 83, 3) := by decide +kernel
theorem dX8_isSet_15 : decode cX8_isSet 15 = .ok (.ireturn, 1) := by decide +kernel
theorem dX8_passWhy_0 : decode cX8_passWhy 0 = .ok (.aload_n 0, 1) := by decide +kernel
theorem dX8_passWhy_1 : decode cX8_passWhy 1 = .ok (.getfield 192, 3) := by decide +kernel
theorem dX8_passWhy_4 : decode cX8_passWhy 4 = .ok (.ifCond .eq 7, 3) := by decide +kernel
theorem dX8_passWhy_7 : decode cX8_passWhy 7 = .ok (.iload_n 1, 1) := by decide +kernel
theorem dX8_passWhy_8 : decode cX8_passWhy 8 = .ok (.ifCond .ne 7, 3) := by decide +kernel
theorem dX8_passWhy_11 : decode cX8_passWhy 11 = .ok (.iconst 1, 1) := by decide +kernel
theorem dX8_passWhy_12 : decode cX8_passWhy 12 = .ok (.goto 37, 3) := by decide +kernel
theorem dX8_passWhy_15 : decode cX8_passWhy 15 = .ok (.iload_n 2, 1) := by decide +kernel
theorem dX8_passWhy_16 : decode cX8_passWhy 16 = .ok (.iconst 1, 1) := by decide +kernel
theorem dX8_passWhy_17 : decode cX8_passWhy 17 = .ok (.iconst 2, 1) := by decide +kernel
theorem dX8_passWhy_18 : decode cX8_passWhy 18 = .ok (.invokestatic 83, 3) := by decide +kernel
theorem dX8_passWhy_21 : decode cX8_passWhy 21 = .ok (.ifCond .eq 27, 3) := by decide +kernel
theorem dX8_passWhy_24 : decode cX8_passWhy 24 = .ok (.aload_n 0, 1) := by decide +kernel
theorem dX8_passWhy_25 : decode cX8_passWhy 25 = .ok (.iload_n 3, 1) := by decide +kernel
theorem dX8_passWhy_26 : decode cX8_passWhy 26 = .ok (.invokevirtual 265, 3) := by decide +kernel
theorem dX8_passWhy_29 : decode cX8_passWhy 29 = .ok (.ifCond .eq 19, 3) := by decide +kernel
theorem dX8_passWhy_32 : decode cX8_passWhy 32 = .ok (.iload 4, 2) := by decide +kernel
theorem dX8_passWhy_34 : decode cX8_passWhy 34 = .ok (.iconst 0, 1) := by decide +kernel
theorem dX8_passWhy_35 : decode cX8_passWhy 35 = .ok (.sipush 400, 3) := by decide +kernel
theorem dX8_passWhy_38 : decode cX8_passWhy 38 = .ok (.invokestatic 83, 3) := by decide +kernel
theorem dX8_passWhy_41 : decode cX8_passWhy 41 = .ok (.ifCond .eq 7, 3) := by decide +kernel
theorem dX8_passWhy_44 : decode cX8_passWhy 44 = .ok (.iconst 0, 1) := by decide +kernel
theorem dX8_passWhy_45 : decode cX8_passWhy 45 = .ok (.goto 4, 3) := by decide +kernel
theorem dX8_passWhy_48 : decode cX8_passWhy 48 = .ok (.iconst 2, 1) := by decide +kernel
theorem dX8_passWhy_49 : decode cX8_passWhy 49 = .ok (.ireturn, 1) := by decide +kernel
theorem dX8_drives_0 : decode cX8_drives 0 = .ok (.aload_n 0, 1) := by decide +kernel
theorem dX8_drives_1 : decode cX8_drives 1 = .ok (.aload_n 0, 1) := by decide +kernel
theorem dX8_drives_2 : decode cX8_drives 2 = .ok (.aload_n 0, 1) := by decide +kernel
theorem dX8_drives_3 : decode cX8_drives 3 = .ok (.iload_n 3, 1) := by decide +kernel
theorem dX8_drives_4 : decode cX8_drives 4 = .ok (.invokevirtual 268, 3) := by decide +kernel
theorem dX8_drives_7 : decode cX8_drives 7 = .ok (.iload_n 1, 1) := by decide +kernel
theorem dX8_drives_8 : decode cX8_drives 8 = .ok (.iload_n 2, 1) := by decide +kernel
theorem dX8_drives_9 : decode cX8_drives 9 = .ok (.iload 4, 2) := by decide +kernel
theorem dX8_drives_11 : decode cX8_drives 11 = .ok (.invokevirtual 271, 3) := by decide +kernel
theorem dX8_drives_14 : decode cX8_drives 14 = .ok (.invokevirtual 180, 3) := by decide +kernel
theorem dX8_drives_17 : decode cX8_drives 17 = .ok (.ifCond .eq 5, 3) := by decide +kernel
theorem dX8_drives_20 : decode cX8_drives 20 = .ok (.iconst (-1), 1) := by decide +kernel
theorem dX8_drives_21 : decode cX8_drives 21 = .ok (.ireturn, 1) := by decide +kernel
theorem dX8_drives_22 : decode cX8_drives 22 = .ok (.aload_n 0, 1) := by decide +kernel
theorem dX8_drives_23 : decode cX8_drives 23 = .ok (.iload_n 1, 1) := by decide +kernel
theorem dX8_drives_24 : decode cX8_drives 24 = .ok (.iload_n 2, 1) := by decide +kernel
theorem dX8_drives_25 : decode cX8_drives 25 = .ok (.invokevirtual 275, 3) := by decide +kernel
theorem dX8_drives_28 : decode cX8_drives 28 = .ok (.aload_n 0, 1) := by decide +kernel
theorem dX8_drives_29 : decode cX8_drives 29 = .ok (.getfield 39, 3) := by decide +kernel
theorem dX8_drives_32 : decode cX8_drives 32 = .ok (.iload_n 3, 1) := by decide +kernel
theorem dX8_drives_33 : decode cX8_drives 33 = .ok (.iload 4, 2) := by decide +kernel
theorem dX8_drives_35 : decode cX8_drives 35 = .ok (.invokestatic 224, 3) := by decide +kernel
theorem dX8_drives_38 : decode cX8_drives 38 = .ok (.iaload, 1) := by decide +kernel
theorem dX8_drives_39 : decode cX8_drives 39 = .ok (.ireturn, 1) := by decide +kernel
theorem dX8_seen_0 : decode cX8_seen 0 = .ok (.aload_n 0, 1) := by decide +kernel
theorem dX8_seen_1 : decode cX8_seen 1 = .ok (.aload_n 0, 1) := by decide +kernel
theorem dX8_seen_2 : decode cX8_seen 2 = .ok (.aload_n 0, 1) := by decide +kernel
theorem dX8_seen_3 : decode cX8_seen 3 = .ok (.iload_n 3, 1) := by decide +kernel
